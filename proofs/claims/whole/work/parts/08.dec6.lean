theorem dX6_init_66 : decode cX6_init 66 = .ok (.putfield 34, 3) := by decide +kernel
theorem dX6_init_69 : decode cX6_init 69 = .ok (.aload_n 0, 1) := by decide +kernel
theorem dX6_init_70 : decode cX6_init 70 = .ok (.bipush (-9), 2) := by decide +kernel
theorem dX6_init_72 : decode cX6_init 72 = .ok (.putfield 37, 3) := by decide +kernel
theorem dX6_init_75 : decode cX6_init 75 = .ok (.aload_n 0, 1) := by decide +kernel
theorem dX6_init_76 : decode cX6_init 76 = .ok (.bipush (-9), 2) := by decide +kernel
theorem dX6_init_78 : decode cX6_init 78 = .ok (.putfield 40, 3) := by decide +kernel
theorem dX6_init_81 : decode cX6_init 81 = .ok (.aload_n 0, 1) := by decide +kernel
theorem dX6_init_82 : decode cX6_init 82 = .ok (.bipush (-9), 2) := by decide +kernel
theorem dX6_init_84 : decode cX6_init 84 = .ok (.putfield 43, 3) := by decide +kernel
theorem dX6_init_87 : decode cX6_init 87 = .ok (.aload_n 0, 1) := by decide +kernel
theorem dX6_init_88 : decode cX6_init 88 = .ok (.iconst 0, 1) := by decide +kernel
theorem dX6_init_89 : decode cX6_init 89 = .ok (.putfield 46, 3) := by decide +kernel
theorem dX6_init_92 : decode cX6_init 92 = .ok (.aload_n 0, 1) := by decide +kernel
theorem dX6_init_93 : decode cX6_init 93 = .ok (.iconst 0, 1) := by decide +kernel
theorem dX6_init_94 : decode cX6_init 94 = .ok (.putfield 49, 3) := by decide +kernel
theorem dX6_init_97 : decode cX6_init 97 = .ok (.aload_n 0, 1) := by decide +kernel
theorem dX6_init_98 : decode cX6_init 98 = .ok (.bipush 24, 2) := by decide +kernel
theorem dX6_init_100 : decode cX6_init 100 = .ok (.newarray .long, 2) := by decide +kernel
theorem dX6_init_102 : decode cX6_init 102 = .ok (.putfield 53, 3) := by decide +kernel
theorem dX6_init_105 : decode cX6_init 105 = .ok (.aload_n 0, 1) := by decide +kernel
theorem dX6_init_106 : decode cX6_init 106 = .ok (.iconst 0, 1) := by decide +kernel
theorem dX6_init_107 : decode cX6_init 107 = .ok (.putfield 57, 3) := by decide +kernel
theorem dX6_init_110 : decode cX6_init 110 = .ok (.aload_n 0, 1) := by decide +kernel
theorem dX6_init_111 : decode cX6_init 111 = .ok (.lconst 0, 1) := by decide +kernel
theorem dX6_init_112 : decode cX6_init 112 = .ok (.putfield 60, 3) := by decide +kernel
theorem dX6_init_115 : decode cX6_init 115 = .ok (.aload_n 0, 1) := by decide +kernel
theorem dX6_init_116 : decode cX6_init 116 = .ok (.iconst 0, 1) := by decide +kernel
theorem dX6_init_117 : decode cX6_init 117 = .ok (.putfield 64, 3) := by decide +kernel
theorem dX6_init_120 : decode cX6_init 120 = .ok (.aload_n 0, 1) := by decide +kernel
theorem dX6_init_121 : decode cX6_init 121 = .ok (.aload_n 1, 1) := by decide +kernel
theorem dX6_init_122 : decode cX6_init 122 = .ok (.putfield 67, 3) := by decide +kernel
theorem dX6_init_125 : decode cX6_init 125 = .ok (.return_, 1) := by decide +kernel
theorem dX6_size_0 : decode cX6_size 0 = .ok (.aload_n 0, 1) := by decide +kernel
theorem dX6_size_1 : decode cX6_size 1 = .ok (.getfield 17, 3) := by decide +kernel
theorem dX6_size_4 : decode cX6_size 4 = .ok (.ireturn, 1) := by decide +kernel
theorem dX6_playerAt_0 : decode cX6_playerAt 0 = .ok (.iload_n 1, 1) := by decide +kernel
theorem dX6_playerAt_1 : decode cX6_playerAt 1 = .ok (.ifCond .lt 25, 3) := by decide +kernel
theorem dX6_playerAt_4 : decode cX6_playerAt 4 = .ok (.iload_n 1, 1) := by decide +kernel
theorem dX6_playerAt_5 : decode cX6_playerAt 5 = .ok (.iconst 4, 1) := by decide +kernel
theorem dX6_playerAt_6 : decode cX6_playerAt 6 = .ok (.if_icmp .ge 20, 3) := by decide +kernel
theorem dX6_playerAt_9 : decode cX6_playerAt 9 = .ok (.iload_n 1, 1) := by decide +kernel
theorem dX6_playerAt_10 : decode cX6_playerAt 10 = .ok (.aload_n 0, 1) := by decide +kernel
theorem dX6_playerAt_11 : decode cX6_playerAt 11 = .ok (.getfield 17, 3) := by decide +kernel
theorem dX6_playerAt_14 : decode cX6_playerAt 14 = .ok (.if_icmp .ge 12, 3) := by decide +kernel
theorem dX6_playerAt_17 : decode cX6_playerAt 17 = .ok (.aload_n 0, 1) := by decide +kernel
theorem dX6_playerAt_18 : decode cX6_playerAt 18 = .ok (.getfield 11, 3) := by decide +kernel
theorem dX6_playerAt_21 : decode cX6_playerAt 21 = .ok (.iload_n 1, 1) := by decide +kernel
theorem dX6_playerAt_22 : decode cX6_playerAt 22 = .ok (.aaload, 1) := by decide +kernel
theorem dX6_playerAt_23 : decode cX6_playerAt 23 = .ok (.goto 4, 3) := by decide +kernel
theorem dX6_playerAt_26 : decode cX6_playerAt 26 = .ok (.aconst_null, 1) := by decide +kernel
theorem dX6_playerAt_27 : decode cX6_playerAt 27 = .ok (.areturn, 1) := by decide +kernel
theorem dX6_pointOf_0 : decode cX6_pointOf 0 = .ok (.iload_n 1, 1) := by decide +kernel
theorem dX6_pointOf_1 : decode cX6_pointOf 1 = .ok (.ifCond .lt 21, 3) := by decide +kernel
theorem dX6_pointOf_4 : decode cX6_pointOf 4 = .ok (.iload_n 1, 1) := by decide +kernel
theorem dX6_pointOf_5 : decode cX6_pointOf 5 = .ok (.aload_n 0, 1) := by decide +kernel
theorem dX6_pointOf_6 : decode cX6_pointOf 6 = .ok (.getfield 21, 3) := by decide +kernel
theorem dX6_pointOf_9 : decode cX6_pointOf 9 = .ok (.arraylength, 1) := by decide +kernel
theorem dX6_pointOf_10 : decode cX6_pointOf 10 = .ok (.if_icmp .ge 12, 3) := by decide +kernel
theorem dX6_pointOf_13 : decode cX6_pointOf 13 = .ok (.aload_n 0, 1) := by decide +kernel
theorem dX6_pointOf_14 : decode cX6_pointOf 14 = .ok (.getfield 21, 3) := by decide +kernel
theorem dX6_pointOf_17 : decode cX6_pointOf 17 = .ok (.iload_n 1, 1) := by decide +kernel
theorem dX6_pointOf_18 : decode cX6_pointOf 18 = .ok (.iaload, 1) := by decide +kernel
theorem dX6_pointOf_19 : decode cX6_pointOf 19 = .ok (.goto 4, 3) := by decide +kernel
theorem dX6_pointOf_22 : decode cX6_pointOf 22 = .ok (.iconst 0, 1) := by decide +kernel
theorem dX6_pointOf_23 : decode cX6_pointOf 23 = .ok (.ireturn, 1) := by decide +kernel
theorem dX6_setPoint_0 : decode cX6_setPoint 0 = .ok (.iload_n 1, 1) := by decide +kernel
theorem dX6_setPoint_1 : decode cX6_setPoint 1 = .ok (.ifCond .lt 19, 3) := by decide +kernel
theorem dX6_setPoint_4 : decode cX6_setPoint 4 = .ok (.iload_n 1, 1) := by decide +kernel
theorem dX6_setPoint_5 : decode cX6_setPoint 5 = .ok (.aload_n 0, 1) := by decide +kernel
theorem dX6_setPoint_6 : decode cX6_setPoint 6 = .ok (.getfield 21, 3) := by decide +kernel
theorem dX6_setPoint_9 : decode cX6_setPoint 9 = .ok (.arraylength, 1) := by decide +kernel
theorem dX6_setPoint_10 : decode cX6_setPoint 10 = .ok (.if_icmp .ge 10, 3) := by decide +kernel
theorem dX6_setPoint_13 : decode cX6_setPoint 13 = .ok (.aload_n 0, 1) := by decide +kernel
theorem dX6_setPoint_14 : decode cX6_setPoint 14 = .ok (.getfield 21, 3) := by decide +kernel
theorem dX6_setPoint_17 : decode cX6_setPoint 17 = .ok (.iload_n 1, 1) := by decide +kernel
theorem dX6_setPoint_18 : decode cX6_setPoint 18 = .ok (.iload_n 2, 1) := by decide +kernel
theorem dX6_setPoint_19 : decode cX6_setPoint 19 = .ok (.iastore, 1) := by decide +kernel
theorem dX6_setPoint_20 : decode cX6_setPoint 20 = .ok (.return_, 1) := by decide +kernel
theorem dX6_gainOf_0 : decode cX6_gainOf 0 = .ok (.iload_n 1, 1) := by decide +kernel
theorem dX6_gainOf_1 : decode cX6_gainOf 1 = .ok (.ifCond .lt 17, 3) := by decide +kernel
theorem dX6_gainOf_4 : decode cX6_gainOf 4 = .ok (.iload_n 1, 1) := by decide +kernel
theorem dX6_gainOf_5 : decode cX6_gainOf 5 = .ok (.iconst 4, 1) := by decide +kernel
theorem dX6_gainOf_6 : decode cX6_gainOf 6 = .ok (.if_icmp .ge 12, 3) := by decide +kernel
theorem dX6_gainOf_9 : decode cX6_gainOf 9 = .ok (.aload_n 0, 1) := by decide +kernel
theorem dX6_gainOf_10 : decode cX6_gainOf 10 = .ok (.getfield 34, 3) := by decide +kernel
theorem dX6_gainOf_13 : decode cX6_gainOf 13 = .ok (.iload_n 1, 1) := by decide +kernel
theorem dX6_gainOf_14 : decode cX6_gainOf 14 = .ok (.iaload, 1) := by decide +kernel
theorem dX6_gainOf_15 : decode cX6_gainOf 15 = .ok (.goto 4, 3) := by decide +kernel
theorem dX6_gainOf_18 : decode cX6_gainOf 18 = .ok (.iconst 0, 1) := by decide +kernel
theorem dX6_gainOf_19 : decode cX6_gainOf 19 = .ok (.ireturn, 1) := by decide +kernel
theorem dX6_calmBits_0 : decode cX6_calmBits 0 = .ok (.iload_n 1, 1) := by decide +kernel
theorem dX6_calmBits_1 : decode cX6_calmBits 1 = .ok (.ifCond .lt 17, 3) := by decide +kernel
theorem dX6_calmBits_4 : decode cX6_calmBits 4 = .ok (.iload_n 1, 1) := by decide +kernel
theorem dX6_calmBits_5 : decode cX6_calmBits 5 = .ok (.iconst 4, 1) := by decide +kernel
theorem dX6_calmBits_6 : decode cX6_calmBits 6 = .ok (.if_icmp .ge 12, 3) := by decide +kernel
theorem dX6_calmBits_9 : decode cX6_calmBits 9 = .ok (.aload_n 0, 1) := by decide +kernel
theorem dX6_calmBits_10 : decode cX6_calmBits 10 = .ok (.getfield 28, 3) := by decide +kernel
theorem dX6_calmBits_13 : decode cX6_calmBits 13 = .ok (.iload_n 1, 1) := by decide +kernel
theorem dX6_calmBits_14 : decode cX6_calmBits 14 = .ok (.iaload, 1) := by decide +kernel
theorem dX6_calmBits_15 : decode cX6_calmBits 15 = .ok (.goto 4, 3) := by decide +kernel
theorem dX6_calmBits_18 : decode cX6_calmBits 18 = .ok (.iconst 0, 1) := by decide +kernel
theorem dX6_calmBits_19 : decode cX6_calmBits 19 = .ok (.ireturn, 1) := by decide +kernel
theorem dX6_valueOf_0 : decode cX6_valueOf 0 = .ok (.iload_n 1, 1) := by decide +kernel
theorem dX6_valueOf_1 : decode cX6_valueOf 1 = .ok (.ifCond .lt 18, 3) := by decide +kernel
theorem dX6_valueOf_4 : decode cX6_valueOf 4 = .ok (.iload_n 1, 1) := by decide +kernel
theorem dX6_valueOf_5 : decode cX6_valueOf 5 = .ok (.bipush 24, 2) := by decide +kernel
theorem dX6_valueOf_7 : decode cX6_valueOf 7 = .ok (.if_icmp .ge 12, 3) := by decide +kernel
theorem dX6_valueOf_10 : decode cX6_valueOf 10 = .ok (.aload_n 0, 1) := by decide +kernel
theorem dX6_valueOf_11 : decode cX6_valueOf 11 = .ok (.getfield 53, 3) := by decide +kernel
theorem dX6_valueOf_14 : decode cX6_valueOf 14 = .ok (.iload_n 1, 1) := by decide +kernel
theorem dX6_valueOf_15 : decode cX6_valueOf 15 = .ok (.laload, 1) := by decide +kernel
theorem dX6_valueOf_16 : decode cX6_valueOf 16 = .ok (.goto 4, 3) := by decide +kernel
theorem dX6_valueOf_19 : decode cX6_valueOf 19 = .ok (.lconst 0, 1) := by decide +kernel
theorem dX6_valueOf_20 : decode cX6_valueOf 20 = .ok (.lreturn, 1) := by decide +kernel
set_option maxRecDepth 20000 in
theorem ggX6_append_X5_ofKind : GoodIn wsX6_append wsX5_ofKind := goodIn_r _ [6, 7, 8, 9, 10, 11, 12, 13, 14, 15, 16, 17, 18, 19, 20, 21, 22, 23, 24, 25, 26, 27, 28, 29, 5, 30, 31, 32, 33, 34, 35, 36, 37, 38, 39, 40, 41, 42, 43, 44, 45, 46, 47, 48, 49, 50, 51, 52, 53, 54, 55, 56, 57, 75, 76, 77, 78, 79, 80, 81, 82, 83, 84, 85, 86, 87, 88, 89, 90, 91, 92, 93, 94] (by decide +kernel) (by decide +kernel)
set_option maxRecDepth 20000 in
theorem gX6_append_X5_ofKind : GoodIn wsX6_append (va_wsS RX6 71 yX5_ofKind wsX5_ofKind) := goodIn_app (goodIn_of _ (by decide +kernel)) ggX6_append_X5_ofKind
theorem dX6_append_0 : decode cX6_append 0 = .ok (.aload_n 0, 1) := by decide +kernel
theorem dX6_append_1 : decode cX6_append 1 = .ok (.getfield 17, 3) := by decide +kernel
theorem dX6_append_4 : decode cX6_append 4 = .ok (.ifCond .lt 21, 3) := by decide +kernel
theorem dX6_append_7 : decode cX6_append 7 = .ok (.aload_n 0, 1) := by decide +kernel
theorem dX6_append_8 : decode cX6_append 8 = .ok (.getfield 17, 3) := by decide +kernel
theorem dX6_append_11 : decode cX6_append 11 = .ok (.iconst 4, 1) := by decide +kernel
theorem dX6_append_12 : decode cX6_append 12 = .ok (.if_icmp .ge 13, 3) := by decide +kernel
theorem dX6_append_15 : decode cX6_append 15 = .ok (.iload_n 3, 1) := by decide +kernel
theorem dX6_append_16 : decode cX6_append 16 = .ok (.ifCond .lt 9, 3) := by decide +kernel
theorem dX6_append_19 : decode cX6_append 19 = .ok (.iload_n 3, 1) := by decide +kernel
theorem dX6_append_20 : decode cX6_append 20 = .ok (.bipush 100, 2) := by decide +kernel
theorem dX6_append_22 : decode cX6_append 22 = .ok (.if_icmp .le 5, 3) := by decide +kernel
theorem dX6_append_25 : decode cX6_append 25 = .ok (.iconst 0, 1) := by decide +kernel
theorem dX6_append_26 : decode cX6_append 26 = .ok (.ireturn, 1) := by decide +kernel
theorem dX6_append_27 : decode cX6_append 27 = .ok (.aload_n 0, 1) := by decide +kernel
theorem dX6_append_28 : decode cX6_append 28 = .ok (.getfield 11, 3) := by decide +kernel
theorem dX6_append_31 : decode cX6_append 31 = .ok (.aload_n 0, 1) := by decide +kernel
theorem dX6_append_32 : decode cX6_append 32 = .ok (.getfield 17, 3) := by decide +kernel
theorem dX6_append_35 : decode cX6_append 35 = .ok (.iload_n 1, 1) := by decide +kernel
theorem dX6_append_36 : decode cX6_append 36 = .ok (.iload_n 2, 1) := by decide +kernel
theorem dX6_append_37 : decode cX6_append 37 = .ok (.iload_n 3, 1) := by decide +kernel
theorem dX6_append_38 : decode cX6_append 38 = .ok (.iload 4, 2) := by decide +kernel
theorem dX6_append_40 : decode cX6_append 40 = .ok (.invokestatic 71, 3) := by decide +kernel
theorem dX6_append_43 : decode cX6_append 43 = .ok (.aastore, 1) := by decide +kernel
theorem dX6_append_44 : decode cX6_append 44 = .ok (.aload_n 0, 1) := by decide +kernel
theorem dX6_append_45 : decode cX6_append 45 = .ok (.dup, 1) := by decide +kernel
theorem dX6_append_46 : decode cX6_append 46 = .ok (.getfield 17, 3) := by decide +kernel
theorem dX6_append_49 : decode cX6_append 49 = .ok (.iconst 1, 1) := by decide +kernel
theorem dX6_append_50 : decode cX6_append 50 = .ok (.iadd, 1) := by decide +kernel
theorem dX6_append_51 : decode cX6_append 51 = .ok (.putfield 17, 3) := by decide +kernel
theorem dX6_append_54 : decode cX6_append 54 = .ok (.iconst 1, 1) := by decide +kernel
theorem dX6_append_55 : decode cX6_append 55 = .ok (.ireturn, 1) := by decide +kernel
theorem dX6_cutBack_0 : decode cX6_cutBack 0 = .ok (.iload_n 1, 1) := by decide +kernel
theorem dX6_cutBack_1 : decode cX6_cutBack 1 = .ok (.ifCond .lt 16, 3) := by decide +kernel
theorem dX6_cutBack_4 : decode cX6_cutBack 4 = .ok (.iload_n 1, 1) := by decide +kernel
theorem dX6_cutBack_5 : decode cX6_cutBack 5 = .ok (.aload_n 0, 1) := by decide +kernel
theorem dX6_cutBack_6 : decode cX6_cutBack 6 = .ok (.getfield 17, 3) := by decide +kernel
theorem dX6_cutBack_9 : decode cX6_cutBack 9 = .ok (.if_icmp .ge 8, 3) := by decide +kernel
theorem dX6_cutBack_12 : decode cX6_cutBack 12 = .ok (.aload_n 0, 1) := by decide +kernel
theorem dX6_cutBack_13 : decode cX6_cutBack 13 = .ok (.iload_n 1, 1) := by decide +kernel
theorem dX6_cutBack_14 : decode cX6_cutBack 14 = .ok (.putfield 17, 3) := by decide +kernel
theorem dX6_cutBack_17 : decode cX6_cutBack 17 = .ok (.return_, 1) := by decide +kernel
set_option maxRecDepth 20000 in
theorem ggX6_prepare_X10_guessBits : GoodIn wsX6_prepare wsX10_guessBits := goodIn_r _ [12, 13, 14, 149, 150, 151, 152, 153, 154, 155, 156, 157, 158, 159, 160, 161, 162, 163, 164] (by decide +kernel) (by decide +kernel)
set_option maxRecDepth 20000 in
theorem gX6_prepare_X10_guessBits : GoodIn wsX6_prepare (wsV RX6 78 RX10 yX10_guessBits wsX10_guessBits) := goodIn_app (goodIn_of _ (by decide +kernel)) ggX6_prepare_X10_guessBits
set_option maxRecDepth 20000 in
theorem ggX6_prepare_X6_pressBits : GoodIn wsX6_prepare wsX6_pressBits := goodIn_r _ [19, 4, 20, 21, 22, 23, 24, 25, 26, 27, 28, 18, 29, 30, 31, 32, 33, 34, 11, 35, 13, 36, 37, 38, 39, 40, 41, 42, 43, 44, 45, 46, 47, 48, 49, 50, 51, 52, 53, 54, 55, 56, 57, 58, 59, 60, 61, 62, 63, 64, 65, 66, 67, 68, 69, 70, 71, 72, 73, 74, 75, 76, 77, 78, 79, 80, 81, 82, 83, 84, 85, 86, 87, 88, 89, 90, 91, 92, 93, 94, 95, 96, 97, 98, 99, 100, 101, 102, 103, 104, 105, 106, 107, 108, 109, 110, 111, 8, 9, 10, 12, 14, 112, 113, 114, 115, 116, 117, 118, 119, 120, 121, 122, 123, 124, 125, 126, 127, 128, 149, 150, 151, 152, 153, 154, 155, 156, 157, 158, 159, 160, 161, 162, 163, 164, 129, 130, 131, 132, 133, 134, 135, 136, 137, 138, 139, 140, 141, 142, 143, 144, 145, 146, 147, 148] (by decide +kernel) (by decide +kernel)
set_option maxRecDepth 20000 in
theorem gX6_prepare_X6_pressBits : GoodIn wsX6_prepare (wsV RX6 84 RX6 yX6_pressBits wsX6_pressBits) := goodIn_app (goodIn_of _ (by decide +kernel)) ggX6_prepare_X6_pressBits
theorem dX6_prepare_0 : decode cX6_prepare 0 = .ok (.iconst 0, 1) := by decide +kernel
theorem dX6_prepare_1 : decode cX6_prepare 1 = .ok (.istore_n 1, 1) := by decide +kernel
theorem dX6_prepare_2 : decode cX6_prepare 2 = .ok (.iload_n 1, 1) := by decide +kernel
theorem dX6_prepare_3 : decode cX6_prepare 3 = .ok (.iconst 4, 1) := by decide +kernel
theorem dX6_prepare_4 : decode cX6_prepare 4 = .ok (.if_icmp .ge 80, 3) := by decide +kernel
theorem dX6_prepare_7 : decode cX6_prepare 7 = .ok (.iload_n 1, 1) := by decide +kernel
theorem dX6_prepare_8 : decode cX6_prepare 8 = .ok (.aload_n 0, 1) := by decide +kernel
theorem dX6_prepare_9 : decode cX6_prepare 9 = .ok (.getfield 17, 3) := by decide +kernel
theorem dX6_prepare_12 : decode cX6_prepare 12 = .ok (.if_icmp .ge 72, 3) := by decide +kernel
theorem dX6_prepare_15 : decode cX6_prepare 15 = .ok (.aload_n 0, 1) := by decide +kernel
theorem dX6_prepare_16 : decode cX6_prepare 16 = .ok (.getfield 11, 3) := by decide +kernel
theorem dX6_prepare_19 : decode cX6_prepare 19 = .ok (.iload_n 1, 1) := by decide +kernel
theorem dX6_prepare_20 : decode cX6_prepare 20 = .ok (.aaload, 1) := by decide +kernel
theorem dX6_prepare_21 : decode cX6_prepare 21 = .ok (.astore_n 2, 1) := by decide +kernel
theorem dX6_prepare_22 : decode cX6_prepare 22 = .ok (.aload_n 2, 1) := by decide +kernel
theorem dX6_prepare_23 : decode cX6_prepare 23 = .ok (.ifnonnull 6, 3) := by decide +kernel
theorem dX6_prepare_26 : decode cX6_prepare 26 = .ok (.goto 52, 3) := by decide +kernel
theorem dX6_prepare_29 : decode cX6_prepare 29 = .ok (.aload_n 0, 1) := by decide +kernel
theorem dX6_prepare_30 : decode cX6_prepare 30 = .ok (.getfield 25, 3) := by decide +kernel
theorem dX6_prepare_33 : decode cX6_prepare 33 = .ok (.iload_n 1, 1) := by decide +kernel
theorem dX6_prepare_34 : decode cX6_prepare 34 = .ok (.aload_n 0, 1) := by decide +kernel
theorem dX6_prepare_35 : decode cX6_prepare 35 = .ok (.getfield 67, 3) := by decide +kernel
theorem dX6_prepare_38 : decode cX6_prepare 38 = .ok (.aload_n 2, 1) := by decide +kernel
theorem dX6_prepare_39 : decode cX6_prepare 39 = .ok (.getfield 75, 3) := by decide +kernel
theorem dX6_prepare_42 : decode cX6_prepare 42 = .ok (.invokevirtual 78, 3) := by decide +kernel
theorem dX6_prepare_45 : decode cX6_prepare 45 = .ok (.iastore, 1) := by decide +kernel
theorem dX6_prepare_46 : decode cX6_prepare 46 = .ok (.aload_n 0, 1) := by decide +kernel
theorem dX6_prepare_47 : decode cX6_prepare 47 = .ok (.getfield 28, 3) := by decide +kernel
theorem dX6_prepare_50 : decode cX6_prepare 50 = .ok (.iload_n 1, 1) := by decide +kernel
theorem dX6_prepare_51 : decode cX6_prepare 51 = .ok (.aload_n 0, 1) := by decide +kernel
theorem dX6_prepare_52 : decode cX6_prepare 52 = .ok (.aload_n 2, 1) := by decide +kernel
theorem dX6_prepare_53 : decode cX6_prepare 53 = .ok (.aload_n 2, 1) := by decide +kernel
theorem dX6_prepare_54 : decode cX6_prepare 54 = .ok (.getfield 75, 3) := by decide +kernel
theorem dX6_prepare_57 : decode cX6_prepare 57 = .ok (.iconst 0, 1) := by decide +kernel
theorem dX6_prepare_58 : decode cX6_prepare 58 = .ok (.invokevirtual 84, 3) := by decide +kernel
theorem dX6_prepare_61 : decode cX6_prepare 61 = .ok (.iastore, 1) := by decide +kernel
theorem dX6_prepare_62 : decode cX6_prepare 62 = .ok (.aload_n 0, 1) := by decide +kernel
theorem dX6_prepare_63 : decode cX6_prepare 63 = .ok (.getfield 31, 3) := by decide +kernel
theorem dX6_prepare_66 : decode cX6_prepare 66 = .ok (.iload_n 1, 1) := by decide +kernel
theorem dX6_prepare_67 : decode cX6_prepare 67 = .ok (.aload_n 0, 1) := by decide +kernel
theorem dX6_prepare_68 : decode cX6_prepare 68 = .ok (.aload_n 2, 1) := by decide +kernel
theorem dX6_prepare_69 : decode cX6_prepare 69 = .ok (.aload_n 2, 1) := by decide +kernel
theorem dX6_prepare_70 : decode cX6_prepare 70 = .ok (.getfield 75, 3) := by decide +kernel
theorem dX6_prepare_73 : decode cX6_prepare 73 = .ok (.iconst 1, 1) := by decide +kernel
theorem dX6_prepare_74 : decode cX6_prepare 74 = .ok (.invokevirtual 84, 3) := by decide +kernel
theorem dX6_prepare_77 : decode cX6_prepare 77 = .ok (.iastore, 1) := by decide +kernel
theorem dX6_prepare_78 : decode cX6_prepare 78 = .ok (.iinc 1 1, 3) := by decide +kernel
theorem dX6_prepare_81 : decode cX6_prepare 81 = .ok (.goto (-79), 3) := by decide +kernel
theorem dX6_prepare_84 : decode cX6_prepare 84 = .ok (.return_, 1) := by decide +kernel
set_option maxRecDepth 20000 in
theorem ggX6_pressBits_X0_wishes : GoodIn wsX6_pressBits wsX0_wishes := goodIn_r _ [7, 8, 9, 10, 11, 12, 1, 13, 14, 15, 16, 17, 18, 19, 20, 21, 22, 23, 24, 25, 26, 27, 28, 29, 30, 31, 32, 33, 34, 35, 36, 37, 38, 102, 103, 104, 105, 106, 107, 108, 109, 110, 111, 112, 113, 114, 115, 116, 117, 118, 119, 120, 121, 122, 123, 124, 125, 126, 127, 128, 129, 130, 131, 132, 133, 134] (by decide +kernel) (by decide +kernel)
set_option maxRecDepth 20000 in
theorem gX6_pressBits_X0_wishes_u88X0 : GoodIn wsX6_pressBits (va_wsU RX6 88 RX0 "BeforeTheEnd$Player" ⟨"BeforeTheEnd$Player", "wishes", "(LBeforeTheEnd$Race;IZ)I"⟩ yX0_wishes wsX0_wishes) := goodIn_app (goodIn_of _ (by decide +kernel)) ggX6_pressBits_X0_wishes
set_option maxRecDepth 20000 in
theorem ggX6_pressBits_X7_wishes : GoodIn wsX6_pressBits wsX7_wishes := goodIn_r _ [42, 43, 44, 45, 46, 47, 48, 49, 50, 51, 52, 53, 54, 55, 56, 57, 58, 59, 60, 61, 62, 63, 64, 65, 66, 41, 67, 68, 69, 70, 71, 18, 72, 20, 73, 38, 74, 28, 29, 30, 31, 32, 16, 17, 19, 75, 76, 77, 78, 79, 80, 81, 82, 83, 102, 103, 104, 105, 106, 107, 108, 109, 110, 111, 112, 113, 114, 115, 116, 117, 118, 135, 136, 137, 138, 139, 140, 141, 142, 143, 144, 145, 146, 147, 148, 149, 150, 151, 152, 153, 154, 119, 120, 121, 122, 123, 124, 125, 126, 127, 128, 129, 130, 131, 132, 133, 134] (by decide +kernel) (by decide +kernel)
set_option maxRecDepth 20000 in
theorem gX6_pressBits_X7_wishes_u88X1 : GoodIn wsX6_pressBits (va_wsU RX6 88 RX1 "BeforeTheEnd$Player" ⟨"BeforeTheEnd$Player", "wishes", "(LBeforeTheEnd$Race;IZ)I"⟩ yX7_wishes wsX7_wishes) := goodIn_app (goodIn_of _ (by decide +kernel)) ggX6_pressBits_X7_wishes
set_option maxRecDepth 20000 in
theorem ggX6_pressBits_X2_wishes : GoodIn wsX6_pressBits wsX2_wishes := goodIn_r _ [87, 88, 89, 80, 81, 18, 82, 20, 83, 102, 103, 104, 105, 106, 107, 108, 109, 110, 111, 112, 113, 114, 115, 116, 117, 118, 119, 120, 121, 122, 123, 124, 125, 126, 127, 128, 129, 130, 131, 132, 133, 134] (by decide +kernel) (by decide +kernel)
set_option maxRecDepth 20000 in
theorem gX6_pressBits_X2_wishes_u88X2 : GoodIn wsX6_pressBits (va_wsU RX6 88 RX2 "BeforeTheEnd$Player" ⟨"BeforeTheEnd$Player", "wishes", "(LBeforeTheEnd$Race;IZ)I"⟩ yX2_wishes wsX2_wishes) := goodIn_app (goodIn_of _ (by decide +kernel)) ggX6_pressBits_X2_wishes
set_option maxRecDepth 20000 in
theorem gX6_pressBits_X7_wishes_u88X4 : GoodIn wsX6_pressBits (va_wsU RX6 88 RX4 "BeforeTheEnd$Player" ⟨"BeforeTheEnd$Player", "wishes", "(LBeforeTheEnd$Race;IZ)I"⟩ yX7_wishes wsX7_wishes) := goodIn_app (goodIn_of _ (by decide +kernel)) ggX6_pressBits_X7_wishes
set_option maxRecDepth 20000 in
theorem gX6_pressBits_X7_wishes_u88X7 : GoodIn wsX6_pressBits (va_wsU RX6 88 RX7 "BeforeTheEnd$Player" ⟨"BeforeTheEnd$Player", "wishes", "(LBeforeTheEnd$Race;IZ)I"⟩ yX7_wishes wsX7_wishes) := goodIn_app (goodIn_of _ (by decide +kernel)) ggX6_pressBits_X7_wishes
set_option maxRecDepth 20000 in
theorem ggX6_pressBits_X9_wishes : GoodIn wsX6_pressBits wsX9_wishes := goodIn_r _ [95, 96, 135, 136, 137, 138, 151, 152, 153, 154] (by decide +kernel) (by decide +kernel)
set_option maxRecDepth 20000 in
theorem gX6_pressBits_X9_wishes_u88X9 : GoodIn wsX6_pressBits (va_wsU RX6 88 RX9 "BeforeTheEnd$Player" ⟨"BeforeTheEnd$Player", "wishes", "(LBeforeTheEnd$Race;IZ)I"⟩ yX9_wishes wsX9_wishes) := goodIn_app (goodIn_of _ (by decide +kernel)) ggX6_pressBits_X9_wishes
set_option maxRecDepth 20000 in
theorem ggX6_pressBits_X10_guessBits : GoodIn wsX6_pressBits wsX10_guessBits := goodIn_r _ [100, 20, 101, 119, 120, 121, 122, 123, 124, 125, 126, 127, 128, 129, 130, 131, 132, 133, 134] (by decide +kernel) (by decide +kernel)
set_option maxRecDepth 20000 in
theorem gX6_pressBits_X10_guessBits : GoodIn wsX6_pressBits (wsV RX6 78 RX10 yX10_guessBits wsX10_guessBits) := goodIn_app (goodIn_of _ (by decide +kernel)) ggX6_pressBits_X10_guessBits
theorem dX6_pressBits_0 : decode cX6_pressBits 0 = .ok (.aload_n 1, 1) := by decide +kernel
theorem dX6_pressBits_1 : decode cX6_pressBits 1 = .ok (.ifnonnull 7, 3) := by decide +kernel
theorem dX6_pressBits_4 : decode cX6_pressBits 4 = .ok (.iconst 0, 1) := by decide +kernel
theorem dX6_pressBits_5 : decode cX6_pressBits 5 = .ok (.goto 19, 3) := by decide +kernel
theorem dX6_pressBits_8 : decode cX6_pressBits 8 = .ok (.aload_n 1, 1) := by decide +kernel
theorem dX6_pressBits_9 : decode cX6_pressBits 9 = .ok (.aload_n 0, 1) := by decide +kernel
theorem dX6_pressBits_10 : decode cX6_pressBits 10 = .ok (.iload_n 2, 1) := by decide +kernel
theorem dX6_pressBits_11 : decode cX6_pressBits 11 = .ok (.iload_n 3, 1) := by decide +kernel
theorem dX6_pressBits_12 : decode cX6_pressBits 12 = .ok (.invokevirtual 88, 3) := by decide +kernel
theorem dX6_pressBits_15 : decode cX6_pressBits 15 = .ok (.aload_n 0, 1) := by decide +kernel
theorem dX6_pressBits_16 : decode cX6_pressBits 16 = .ok (.getfield 67, 3) := by decide +kernel
theorem dX6_pressBits_19 : decode cX6_pressBits 19 = .ok (.iload_n 2, 1) := by decide +kernel
theorem dX6_pressBits_20 : decode cX6_pressBits 20 = .ok (.invokevirtual 78, 3) := by decide +kernel
theorem dX6_pressBits_23 : decode cX6_pressBits 23 = .ok (.iand, 1) := by decide +kernel
theorem dX6_pressBits_24 : decode cX6_pressBits 24 = .ok (.ireturn, 1) := by decide +kernel
set_option maxRecDepth 20000 in
theorem ggX6_runTo_X10_wayTo : GoodIn wsX6_runTo wsX10_wayTo := goodIn_r _ [15, 16, 17, 18, 19, 14, 20, 21, 71, 72, 73, 74, 75, 76, 77, 78, 79, 80, 81, 82, 83, 84, 85, 86] (by decide +kernel) (by decide +kernel)
set_option maxRecDepth 20000 in
theorem gX6_runTo_X10_wayTo : GoodIn wsX6_runTo (wsV RX6 92 RX10 yX10_wayTo wsX10_wayTo) := goodIn_app (goodIn_of _ (by decide +kernel)) ggX6_runTo_X10_wayTo
set_option maxRecDepth 20000 in
theorem ggX6_runTo_X6_quickest : GoodIn wsX6_runTo wsX6_quickest := goodIn_r _ [26, 6, 27, 4, 8, 9, 28, 54, 55, 56, 57, 58, 59, 60, 61, 62, 63, 64, 65, 66, 67, 68, 69, 70, 87, 88, 89, 90, 91, 92, 93, 94, 95, 96, 97, 98, 99, 100, 101, 102, 103, 104, 105, 106] (by decide +kernel) (by decide +kernel)
set_option maxRecDepth 20000 in
theorem gX6_runTo_X6_quickest : GoodIn wsX6_runTo (wsV RX6 95 RX6 yX6_quickest wsX6_quickest) := goodIn_app (goodIn_of _ (by decide +kernel)) ggX6_runTo_X6_quickest
set_option maxRecDepth 20000 in
theorem ggX6_runTo_X6_answerBy : GoodIn wsX6_runTo wsX6_answerBy := goodIn_r _ [32, 3, 2, 10, 33, 1, 7, 34, 5, 4, 35, 36, 37, 25, 38, 6, 27, 39, 40, 41, 14, 42, 43, 17, 18, 19, 20, 21, 44, 45, 46, 47, 48, 49, 50, 51, 52, 53, 54, 55, 56, 57, 58, 59, 60, 61, 62, 63, 64, 65, 66, 67, 68, 69, 70, 87, 88, 89, 90, 91, 92, 93, 94, 95, 96, 97, 98, 99, 100, 101, 102, 103, 104, 105, 106, 71, 72, 73, 74, 75, 76, 77, 78, 79, 80, 81, 82, 83, 84, 85, 86] (by decide +kernel) (by decide +kernel)
set_option maxRecDepth 20000 in
theorem gX6_runTo_X6_answerBy : GoodIn wsX6_runTo (wsV RX6 98 RX6 yX6_answerBy wsX6_answerBy) := goodIn_app (goodIn_of _ (by decide +kernel)) ggX6_runTo_X6_answerBy
theorem dX6_runTo_0 : decode cX6_runTo 0 = .ok (.aload_n 0, 1) := by decide +kernel
theorem dX6_runTo_1 : decode cX6_runTo 1 = .ok (.bipush (-9), 2) := by decide +kernel
theorem dX6_runTo_3 : decode cX6_runTo 3 = .ok (.putfield 37, 3) := by decide +kernel
theorem dX6_runTo_6 : decode cX6_runTo 6 = .ok (.aload_n 0, 1) := by decide +kernel
theorem dX6_runTo_7 : decode cX6_runTo 7 = .ok (.bipush (-9), 2) := by decide +kernel
theorem dX6_runTo_9 : decode cX6_runTo 9 = .ok (.putfield 40, 3) := by decide +kernel
theorem dX6_runTo_12 : decode cX6_runTo 12 = .ok (.aload_n 0, 1) := by decide +kernel
theorem dX6_runTo_13 : decode cX6_runTo 13 = .ok (.bipush (-9), 2) := by decide +kernel
theorem dX6_runTo_15 : decode cX6_runTo 15 = .ok (.putfield 43, 3) := by decide +kernel
theorem dX6_runTo_18 : decode cX6_runTo 18 = .ok (.aload_n 0, 1) := by decide +kernel
theorem dX6_runTo_19 : decode cX6_runTo 19 = .ok (.iconst 0, 1) := by decide +kernel
theorem dX6_runTo_20 : decode cX6_runTo 20 = .ok (.putfield 46, 3) := by decide +kernel
theorem dX6_runTo_23 : decode cX6_runTo 23 = .ok (.aload_n 0, 1) := by decide +kernel
theorem dX6_runTo_24 : decode cX6_runTo 24 = .ok (.iconst 0, 1) := by decide +kernel
theorem dX6_runTo_25 : decode cX6_runTo 25 = .ok (.putfield 49, 3) := by decide +kernel
theorem dX6_runTo_28 : decode cX6_runTo 28 = .ok (.iconst 0, 1) := by decide +kernel
theorem dX6_runTo_29 : decode cX6_runTo 29 = .ok (.istore_n 2, 1) := by decide +kernel
theorem dX6_runTo_30 : decode cX6_runTo 30 = .ok (.iconst 0, 1) := by decide +kernel
theorem dX6_runTo_31 : decode cX6_runTo 31 = .ok (.istore_n 3, 1) := by decide +kernel
theorem dX6_runTo_32 : decode cX6_runTo 32 = .ok (.iload_n 3, 1) := by decide +kernel
theorem dX6_runTo_33 : decode cX6_runTo 33 = .ok (.iconst 4, 1) := by decide +kernel
theorem dX6_runTo_34 : decode cX6_runTo 34 = .ok (.if_icmp .ge 40, 3) := by decide +kernel
theorem dX6_runTo_37 : decode cX6_runTo 37 = .ok (.iload_n 3, 1) := by decide +kernel
theorem dX6_runTo_38 : decode cX6_runTo 38 = .ok (.aload_n 0, 1) := by decide +kernel
theorem dX6_runTo_39 : decode cX6_runTo 39 = .ok (.getfield 17, 3) := by decide +kernel
theorem dX6_runTo_42 : decode cX6_runTo 42 = .ok (.if_icmp .ge 32, 3) := by decide +kernel
theorem dX6_runTo_45 : decode cX6_runTo 45 = .ok (.aload_n 0, 1) := by decide +kernel
theorem dX6_runTo_46 : decode cX6_runTo 46 = .ok (.getfield 34, 3) := by decide +kernel
theorem dX6_runTo_49 : decode cX6_runTo 49 = .ok (.iload_n 3, 1) := by decide +kernel
theorem dX6_runTo_50 : decode cX6_runTo 50 = .ok (.iconst 0, 1) := by decide +kernel
theorem dX6_runTo_51 : decode cX6_runTo 51 = .ok (.iastore, 1) := by decide +kernel
theorem dX6_runTo_52 : decode cX6_runTo 52 = .ok (.iload_n 2, 1) := by decide +kernel
theorem dX6_runTo_53 : decode cX6_runTo 53 = .ok (.aload_n 0, 1) := by decide +kernel
theorem dX6_runTo_54 : decode cX6_runTo 54 = .ok (.getfield 28, 3) := by decide +kernel
theorem dX6_runTo_57 : decode cX6_runTo 57 = .ok (.iload_n 3, 1) := by decide +kernel
theorem dX6_runTo_58 : decode cX6_runTo 58 = .ok (.iaload, 1) := by decide +kernel
theorem dX6_runTo_59 : decode cX6_runTo 59 = .ok (.aload_n 0, 1) := by decide +kernel
theorem dX6_runTo_60 : decode cX6_runTo 60 = .ok (.getfield 31, 3) := by decide +kernel
theorem dX6_runTo_63 : decode cX6_runTo 63 = .ok (.iload_n 3, 1) := by decide +kernel
theorem dX6_runTo_64 : decode cX6_runTo 64 = .ok (.iaload, 1) := by decide +kernel
theorem dX6_runTo_65 : decode cX6_runTo 65 = .ok (.ior, 1) := by decide +kernel
theorem dX6_runTo_66 : decode cX6_runTo 66 = .ok (.ior, 1) := by decide +kernel
theorem dX6_runTo_67 : decode cX6_runTo 67 = .ok (.istore_n 2, 1) := by decide +kernel
theorem dX6_runTo_68 : decode cX6_runTo 68 = .ok (.iinc 3 1, 3) := by decide +kernel
theorem dX6_runTo_71 : decode cX6_runTo 71 = .ok (.goto (-39), 3) := by decide +kernel
theorem dX6_runTo_74 : decode cX6_runTo 74 = .ok (.aload_n 0, 1) := by decide +kernel
theorem dX6_runTo_75 : decode cX6_runTo 75 = .ok (.getfield 67, 3) := by decide +kernel
theorem dX6_runTo_78 : decode cX6_runTo 78 = .ok (.iload_n 1, 1) := by decide +kernel
theorem dX6_runTo_79 : decode cX6_runTo 79 = .ok (.invokevirtual 92, 3) := by decide +kernel
theorem dX6_runTo_82 : decode cX6_runTo 82 = .ok (.iload_n 2, 1) := by decide +kernel
theorem dX6_runTo_83 : decode cX6_runTo 83 = .ok (.iand, 1) := by decide +kernel
theorem dX6_runTo_84 : decode cX6_runTo 84 = .ok (.istore_n 3, 1) := by decide +kernel
theorem dX6_runTo_85 : decode cX6_runTo 85 = .ok (.iconst 1, 1) := by decide +kernel
theorem dX6_runTo_86 : decode cX6_runTo 86 = .ok (.istore 4, 2) := by decide +kernel
theorem dX6_runTo_88 : decode cX6_runTo 88 = .ok (.iload 4, 2) := by decide +kernel
theorem dX6_runTo_90 : decode cX6_runTo 90 = .ok (.bipush 24, 2) := by decide +kernel
theorem dX6_runTo_92 : decode cX6_runTo 92 = .ok (.if_icmp .ge 91, 3) := by decide +kernel
theorem dX6_runTo_95 : decode cX6_runTo 95 = .ok (.aload_n 0, 1) := by decide +kernel
theorem dX6_runTo_96 : decode cX6_runTo 96 = .ok (.getfield 49, 3) := by decide +kernel
theorem dX6_runTo_99 : decode cX6_runTo 99 = .ok (.ifCond .ne 84, 3) := by decide +kernel
theorem dX6_runTo_102 : decode cX6_runTo 102 = .ok (.iload_n 3, 1) := by decide +kernel
theorem dX6_runTo_103 : decode cX6_runTo 103 = .ok (.iload 4, 2) := by decide +kernel
theorem dX6_runTo_105 : decode cX6_runTo 105 = .ok (.ishr, 1) := by decide +kernel
theorem dX6_runTo_106 : decode cX6_runTo 106 = .ok (.iconst 1, 1) := by decide +kernel
theorem dX6_runTo_107 : decode cX6_runTo 107 = .ok (.iand, 1) := by decide +kernel
theorem dX6_runTo_108 : decode cX6_runTo 108 = .ok (.ifCond .ne 6, 3) := by decide +kernel
theorem dX6_runTo_111 : decode cX6_runTo 111 = .ok (.goto 66, 3) := by decide +kernel
theorem dX6_runTo_114 : decode cX6_runTo 114 = .ok (.iload 4, 2) := by decide +kernel
theorem dX6_runTo_116 : decode cX6_runTo 116 = .ok (.iload_n 1, 1) := by decide +kernel
theorem dX6_runTo_117 : decode cX6_runTo 117 = .ok (.if_icmp .ne 7, 3) := by decide +kernel
theorem dX6_runTo_120 : decode cX6_runTo 120 = .ok (.iconst 4, 1) := by decide +kernel
theorem dX6_runTo_121 : decode cX6_runTo 121 = .ok (.goto 4, 3) := by decide +kernel
theorem dX6_runTo_124 : decode cX6_runTo 124 = .ok (.iconst 1, 1) := by decide +kernel
theorem dX6_runTo_125 : decode cX6_runTo 125 = .ok (.istore 5, 2) := by decide +kernel
theorem dX6_runTo_127 : decode cX6_runTo 127 = .ok (.iconst 0, 1) := by decide +kernel
theorem dX6_runTo_128 : decode cX6_runTo 128 = .ok (.istore 6, 2) := by decide +kernel
theorem dX6_runTo_130 : decode cX6_runTo 130 = .ok (.iload 6, 2) := by decide +kernel
theorem dX6_runTo_132 : decode cX6_runTo 132 = .ok (.iload 5, 2) := by decide +kernel
theorem dX6_runTo_134 : decode cX6_runTo 134 = .ok (.if_icmp .ge 43, 3) := by decide +kernel
theorem dX6_runTo_137 : decode cX6_runTo 137 = .ok (.aload_n 0, 1) := by decide +kernel
theorem dX6_runTo_138 : decode cX6_runTo 138 = .ok (.getfield 49, 3) := by decide +kernel
theorem dX6_runTo_141 : decode cX6_runTo 141 = .ok (.ifCond .ne 36, 3) := by decide +kernel
theorem dX6_runTo_144 : decode cX6_runTo 144 = .ok (.aload_n 0, 1) := by decide +kernel
theorem dX6_runTo_145 : decode cX6_runTo 145 = .ok (.iload 4, 2) := by decide +kernel
theorem dX6_runTo_147 : decode cX6_runTo 147 = .ok (.invokevirtual 95, 3) := by decide +kernel
theorem dX6_runTo_150 : decode cX6_runTo 150 = .ok (.istore 7, 2) := by decide +kernel
theorem dX6_runTo_152 : decode cX6_runTo 152 = .ok (.iload 7, 2) := by decide +kernel
theorem dX6_runTo_154 : decode cX6_runTo 154 = .ok (.bipush (-9), 2) := by decide +kernel
theorem dX6_runTo_156 : decode cX6_runTo 156 = .ok (.if_icmp .ne 6, 3) := by decide +kernel
theorem dX6_runTo_159 : decode cX6_runTo 159 = .ok (.goto 18, 3) := by decide +kernel
theorem dX6_runTo_162 : decode cX6_runTo 162 = .ok (.aload_n 0, 1) := by decide +kernel
theorem dX6_runTo_163 : decode cX6_runTo 163 = .ok (.iload 7, 2) := by decide +kernel
theorem dX6_runTo_165 : decode cX6_runTo 165 = .ok (.iload 4, 2) := by decide +kernel
theorem dX6_runTo_167 : decode cX6_runTo 167 = .ok (.iload_n 1, 1) := by decide +kernel
theorem dX6_runTo_168 : decode cX6_runTo 168 = .ok (.invokevirtual 98, 3) := by decide +kernel
theorem dX6_runTo_171 : decode cX6_runTo 171 = .ok (.iinc 6 1, 3) := by decide +kernel
theorem dX6_runTo_174 : decode cX6_runTo 174 = .ok (.goto (-44), 3) := by decide +kernel
theorem dX6_runTo_177 : decode cX6_runTo 177 = .ok (.iinc 4 1, 3) := by decide +kernel
theorem dX6_runTo_180 : decode cX6_runTo 180 = .ok (.goto (-92), 3) := by decide +kernel
theorem dX6_runTo_183 : decode cX6_runTo 183 = .ok (.return_, 1) := by decide +kernel
theorem dX6_quickest_0 : decode cX6_quickest 0 = .ok (.bipush (-9), 2) := by decide +kernel
theorem dX6_quickest_2 : decode cX6_quickest 2 = .ok (.istore_n 2, 1) := by decide +kernel
theorem dX6_quickest_3 : decode cX6_quickest 3 = .ok (.bipush 10, 2) := by decide +kernel
theorem dX6_quickest_5 : decode cX6_quickest 5 = .ok (.istore_n 3, 1) := by decide +kernel
theorem dX6_quickest_6 : decode cX6_quickest 6 = .ok (.iconst 0, 1) := by decide +kernel
theorem dX6_quickest_7 : decode cX6_quickest 7 = .ok (.istore 4, 2) := by decide +kernel
theorem dX6_quickest_9 : decode cX6_quickest 9 = .ok (.iload 4, 2) := by decide +kernel
theorem dX6_quickest_11 : decode cX6_quickest 11 = .ok (.iconst 4, 1) := by decide +kernel
theorem dX6_quickest_12 : decode cX6_quickest 12 = .ok (.if_icmp .ge 110, 3) := by decide +kernel
theorem dX6_quickest_15 : decode cX6_quickest 15 = .ok (.iload 4, 2) := by decide +kernel
theorem dX6_quickest_17 : decode cX6_quickest 17 = .ok (.aload_n 0, 1) := by decide +kernel
theorem dX6_quickest_18 : decode cX6_quickest 18 = .ok (.getfield 17, 3) := by decide +kernel
theorem dX6_quickest_21 : decode cX6_quickest 21 = .ok (.if_icmp .ge 101, 3) := by decide +kernel
theorem dX6_quickest_24 : decode cX6_quickest 24 = .ok (.aload_n 0, 1) := by decide +kernel
theorem dX6_quickest_25 : decode cX6_quickest 25 = .ok (.getfield 11, 3) := by decide +kernel
theorem dX6_quickest_28 : decode cX6_quickest 28 = .ok (.iload 4, 2) := by decide +kernel
theorem dX6_quickest_30 : decode cX6_quickest 30 = .ok (.aaload, 1) := by decide +kernel
theorem dX6_quickest_31 : decode cX6_quickest 31 = .ok (.astore 5, 2) := by decide +kernel
theorem dX6_quickest_33 : decode cX6_quickest 33 = .ok (.aload_n 0, 1) := by decide +kernel
theorem dX6_quickest_34 : decode cX6_quickest 34 = .ok (.getfield 46, 3) := by decide +kernel
theorem dX6_quickest_37 : decode cX6_quickest 37 = .ok (.ifCond .ne 13, 3) := by decide +kernel
theorem dX6_quickest_40 : decode cX6_quickest 40 = .ok (.aload_n 0, 1) := by decide +kernel
theorem dX6_quickest_41 : decode cX6_quickest 41 = .ok (.getfield 28, 3) := by decide +kernel
theorem dX6_quickest_44 : decode cX6_quickest 44 = .ok (.iload 4, 2) := by decide +kernel
theorem dX6_quickest_46 : decode cX6_quickest 46 = .ok (.iaload, 1) := by decide +kernel
theorem dX6_quickest_47 : decode cX6_quickest 47 = .ok (.goto 10, 3) := by decide +kernel
theorem dX6_quickest_50 : decode cX6_quickest 50 = .ok (.aload_n 0, 1) := by decide +kernel
theorem dX6_quickest_51 : decode cX6_quickest 51 = .ok (.getfield 31, 3) := by decide +kernel
theorem dX6_quickest_54 : decode cX6_quickest 54 = .ok (.iload 4, 2) := by decide +kernel
theorem dX6_quickest_56 : decode cX6_quickest 56 = .ok (.iaload, 1) := by decide +kernel
theorem dX6_quickest_57 : decode cX6_quickest 57 = .ok (.istore 6, 2) := by decide +kernel
theorem dX6_quickest_59 : decode cX6_quickest 59 = .ok (.iload 6, 2) := by decide +kernel
theorem dX6_quickest_61 : decode cX6_quickest 61 = .ok (.iload_n 1, 1) := by decide +kernel
theorem dX6_quickest_62 : decode cX6_quickest 62 = .ok (.ishr, 1) := by decide +kernel
theorem dX6_quickest_63 : decode cX6_quickest 63 = .ok (.iconst 1, 1) := by decide +kernel
theorem dX6_quickest_64 : decode cX6_quickest 64 = .ok (.iand, 1) := by decide +kernel
theorem dX6_quickest_65 : decode cX6_quickest 65 = .ok (.iconst 1, 1) := by decide +kernel
theorem dX6_quickest_66 : decode cX6_quickest 66 = .ok (.if_icmp .ne 19, 3) := by decide +kernel
theorem dX6_quickest_69 : decode cX6_quickest 69 = .ok (.aload_n 0, 1) := by decide +kernel
theorem dX6_quickest_70 : decode cX6_quickest 70 = .ok (.getfield 46, 3) := by decide +kernel
theorem dX6_quickest_73 : decode cX6_quickest 73 = .ok (.iload 4, 2) := by decide +kernel
theorem dX6_quickest_75 : decode cX6_quickest 75 = .ok (.ishr, 1) := by decide +kernel
theorem dX6_quickest_76 : decode cX6_quickest 76 = .ok (.iconst 1, 1) := by decide +kernel
theorem dX6_quickest_77 : decode cX6_quickest 77 = .ok (.iand, 1) := by decide +kernel
theorem dX6_quickest_78 : decode cX6_quickest 78 = .ok (.ifCond .ne 7, 3) := by decide +kernel
theorem dX6_quickest_81 : decode cX6_quickest 81 = .ok (.iconst 1, 1) := by decide +kernel
theorem dX6_quickest_82 : decode cX6_quickest 82 = .ok (.goto 4, 3) := by decide +kernel
theorem dX6_quickest_85 : decode cX6_quickest 85 = .ok (.iconst 0, 1) := by decide +kernel
theorem dX6_quickest_86 : decode cX6_quickest 86 = .ok (.istore 7, 2) := by decide +kernel
theorem dX6_quickest_88 : decode cX6_quickest 88 = .ok (.iload 7, 2) := by decide +kernel
theorem dX6_quickest_90 : decode cX6_quickest 90 = .ok (.ifCond .eq 26, 3) := by decide +kernel
theorem dX6_quickest_93 : decode cX6_quickest 93 = .ok (.aload 5, 2) := by decide +kernel
theorem dX6_quickest_95 : decode cX6_quickest 95 = .ok (.ifnull 21, 3) := by decide +kernel
theorem dX6_quickest_98 : decode cX6_quickest 98 = .ok (.aload 5, 2) := by decide +kernel
theorem dX6_quickest_100 : decode cX6_quickest 100 = .ok (.getfield 102, 3) := by decide +kernel
theorem dX6_quickest_103 : decode cX6_quickest 103 = .ok (.iload_n 3, 1) := by decide +kernel
theorem dX6_quickest_104 : decode cX6_quickest 104 = .ok (.if_icmp .ge 12, 3) := by decide +kernel
theorem dX6_quickest_107 : decode cX6_quickest 107 = .ok (.aload 5, 2) := by decide +kernel
theorem dX6_quickest_109 : decode cX6_quickest 109 = .ok (.getfield 102, 3) := by decide +kernel
theorem dX6_quickest_112 : decode cX6_quickest 112 = .ok (.istore_n 3, 1) := by decide +kernel
theorem dX6_quickest_113 : decode cX6_quickest 113 = .ok (.iload 4, 2) := by decide +kernel
theorem dX6_quickest_115 : decode cX6_quickest 115 = .ok (.istore_n 2, 1) := by decide +kernel
theorem dX6_quickest_116 : decode cX6_quickest 116 = .ok (.iinc 4 1, 3) := by decide +kernel
theorem dX6_quickest_119 : decode cX6_quickest 119 = .ok (.goto (-110), 3) := by decide +kernel
theorem dX6_quickest_122 : decode cX6_quickest 122 = .ok (.iload_n 2, 1) := by decide +kernel
theorem dX6_quickest_123 : decode cX6_quickest 123 = .ok (.ireturn, 1) := by decide +kernel
set_option maxRecDepth 20000 in
theorem ggX6_answerBy_X6_playerAt : GoodIn wsX6_answerBy wsX6_playerAt := goodIn_r _ [14, 15, 16, 38, 39, 40, 41, 42, 43, 44, 45, 46, 47, 48, 49, 50, 51, 52, 53, 54] (by decide +kernel) (by decide +kernel)
set_option maxRecDepth 20000 in
theorem gX6_answerBy_X6_playerAt : GoodIn wsX6_answerBy (wsV RX6 105 RX6 yX6_playerAt wsX6_playerAt) := goodIn_app (goodIn_of _ (by decide +kernel)) ggX6_answerBy_X6_playerAt
set_option maxRecDepth 20000 in
theorem ggX6_answerBy_X10_guessAt : GoodIn wsX6_answerBy wsX10_guessAt := goodIn_r _ [21, 22, 23, 24, 25, 20, 26, 27, 75, 76, 77, 78, 79, 80, 81, 82, 83, 84, 85, 86, 87, 88, 89, 90] (by decide +kernel) (by decide +kernel)
set_option maxRecDepth 20000 in
theorem gX6_answerBy_X10_guessAt : GoodIn wsX6_answerBy (wsV RX6 109 RX10 yX10_guessAt wsX10_guessAt) := goodIn_app (goodIn_of _ (by decide +kernel)) ggX6_answerBy_X10_guessAt
set_option maxRecDepth 20000 in
theorem ggX6_answerBy_X10_answerOf : GoodIn wsX6_answerBy wsX10_answerOf := goodIn_r _ [31, 32, 23, 24, 25, 20, 26, 27, 75, 76, 77, 78, 79, 80, 81, 82, 83, 84, 85, 86, 87, 88, 89, 90] (by decide +kernel) (by decide +kernel)
set_option maxRecDepth 20000 in
theorem gX6_answerBy_X10_answerOf : GoodIn wsX6_answerBy (wsV RX6 113 RX10 yX10_answerOf wsX10_answerOf) := goodIn_app (goodIn_of _ (by decide +kernel)) ggX6_answerBy_X10_answerOf
set_option maxRecDepth 20000 in
theorem ggX6_answerBy_X10_lengthOf : GoodIn wsX6_answerBy wsX10_lengthOf := goodIn_r _ [36, 37, 23, 24, 25, 20, 26, 27, 75, 76, 77, 78, 79, 80, 81, 82, 83, 84, 85, 86, 87, 88, 89, 90] (by decide +kernel) (by decide +kernel)
set_option maxRecDepth 20000 in
theorem gX6_answerBy_X10_lengthOf : GoodIn wsX6_answerBy (wsV RX6 116 RX10 yX10_lengthOf wsX10_lengthOf) := goodIn_app (goodIn_of _ (by decide +kernel)) ggX6_answerBy_X10_lengthOf
theorem dX6_answerBy_0 : decode cX6_answerBy 0 = .ok (.aload_n 0, 1) := by decide +kernel
theorem dX6_answerBy_1 : decode cX6_answerBy 1 = .ok (.iload_n 1, 1) := by decide +kernel
theorem dX6_answerBy_2 : decode cX6_answerBy 2 = .ok (.invokevirtual 105, 3) := by decide +kernel
theorem dX6_answerBy_5 : decode cX6_answerBy 5 = .ok (.astore 4, 2) := by decide +kernel
theorem dX6_answerBy_7 : decode cX6_answerBy 7 = .ok (.aload 4, 2) := by decide +kernel
theorem dX6_answerBy_9 : decode cX6_answerBy 9 = .ok (.ifnonnull 4, 3) := by decide +kernel
theorem dX6_answerBy_12 : decode cX6_answerBy 12 = .ok (.return_, 1) := by decide +kernel
theorem dX6_answerBy_13 : decode cX6_answerBy 13 = .ok (.aload_n 0, 1) := by decide +kernel
theorem dX6_answerBy_14 : decode cX6_answerBy 14 = .ok (.getfield 43, 3) := by decide +kernel
theorem dX6_answerBy_17 : decode cX6_answerBy 17 = .ok (.bipush (-9), 2) := by decide +kernel
theorem dX6_answerBy_19 : decode cX6_answerBy 19 = .ok (.if_icmp .ne 13, 3) := by decide +kernel
theorem dX6_answerBy_22 : decode cX6_answerBy 22 = .ok (.aload_n 0, 1) := by decide +kernel
theorem dX6_answerBy_23 : decode cX6_answerBy 23 = .ok (.iload_n 1, 1) := by decide +kernel
theorem dX6_answerBy_24 : decode cX6_answerBy 24 = .ok (.putfield 43, 3) := by decide +kernel
theorem dX6_answerBy_27 : decode cX6_answerBy 27 = .ok (.aload_n 0, 1) := by decide +kernel
theorem dX6_answerBy_28 : decode cX6_answerBy 28 = .ok (.iload_n 2, 1) := by decide +kernel
theorem dX6_answerBy_29 : decode cX6_answerBy 29 = .ok (.putfield 40, 3) := by decide +kernel
theorem dX6_answerBy_32 : decode cX6_answerBy 32 = .ok (.aload_n 0, 1) := by decide +kernel
theorem dX6_answerBy_33 : decode cX6_answerBy 33 = .ok (.getfield 67, 3) := by decide +kernel
theorem dX6_answerBy_36 : decode cX6_answerBy 36 = .ok (.iload_n 2, 1) := by decide +kernel
theorem dX6_answerBy_37 : decode cX6_answerBy 37 = .ok (.aload 4, 2) := by decide +kernel
theorem dX6_answerBy_39 : decode cX6_answerBy 39 = .ok (.getfield 75, 3) := by decide +kernel
theorem dX6_answerBy_42 : decode cX6_answerBy 42 = .ok (.invokevirtual 109, 3) := by decide +kernel
theorem dX6_answerBy_45 : decode cX6_answerBy 45 = .ok (.aload_n 0, 1) := by decide +kernel
theorem dX6_answerBy_46 : decode cX6_answerBy 46 = .ok (.getfield 67, 3) := by decide +kernel
theorem dX6_answerBy_49 : decode cX6_answerBy 49 = .ok (.iload_n 3, 1) := by decide +kernel
theorem dX6_answerBy_50 : decode cX6_answerBy 50 = .ok (.invokevirtual 113, 3) := by decide +kernel
theorem dX6_answerBy_53 : decode cX6_answerBy 53 = .ok (.if_icmp .ne 53, 3) := by decide +kernel
theorem dX6_answerBy_56 : decode cX6_answerBy 56 = .ok (.aload_n 0, 1) := by decide +kernel
theorem dX6_answerBy_57 : decode cX6_answerBy 57 = .ok (.iload_n 1, 1) := by decide +kernel
theorem dX6_answerBy_58 : decode cX6_answerBy 58 = .ok (.putfield 37, 3) := by decide +kernel
theorem dX6_answerBy_61 : decode cX6_answerBy 61 = .ok (.aload_n 0, 1) := by decide +kernel
theorem dX6_answerBy_62 : decode cX6_answerBy 62 = .ok (.getfield 34, 3) := by decide +kernel
theorem dX6_answerBy_65 : decode cX6_answerBy 65 = .ok (.iload_n 1, 1) := by decide +kernel
theorem dX6_answerBy_66 : decode cX6_answerBy 66 = .ok (.aload_n 0, 1) := by decide +kernel
theorem dX6_answerBy_67 : decode cX6_answerBy 67 = .ok (.getfield 21, 3) := by decide +kernel
theorem dX6_answerBy_70 : decode cX6_answerBy 70 = .ok (.iconst 0, 1) := by decide +kernel
theorem dX6_answerBy_71 : decode cX6_answerBy 71 = .ok (.iaload, 1) := by decide +kernel
theorem dX6_answerBy_72 : decode cX6_answerBy 72 = .ok (.aload_n 0, 1) := by decide +kernel
theorem dX6_answerBy_73 : decode cX6_answerBy 73 = .ok (.getfield 21, 3) := by decide +kernel
theorem dX6_answerBy_76 : decode cX6_answerBy 76 = .ok (.iconst 2, 1) := by decide +kernel
theorem dX6_answerBy_77 : decode cX6_answerBy 77 = .ok (.iaload, 1) := by decide +kernel
theorem dX6_answerBy_78 : decode cX6_answerBy 78 = .ok (.aload_n 0, 1) := by decide +kernel
theorem dX6_answerBy_79 : decode cX6_answerBy 79 = .ok (.getfield 67, 3) := by decide +kernel
theorem dX6_answerBy_82 : decode cX6_answerBy 82 = .ok (.iload_n 3, 1) := by decide +kernel
theorem dX6_answerBy_83 : decode cX6_answerBy 83 = .ok (.invokevirtual 116, 3) := by decide +kernel
theorem dX6_answerBy_86 : decode cX6_answerBy 86 = .ok (.aload_n 0, 1) := by decide +kernel
theorem dX6_answerBy_87 : decode cX6_answerBy 87 = .ok (.getfield 67, 3) := by decide +kernel
theorem dX6_answerBy_90 : decode cX6_answerBy 90 = .ok (.iload_n 2, 1) := by decide +kernel
theorem dX6_answerBy_91 : decode cX6_answerBy 91 = .ok (.invokevirtual 116, 3) := by decide +kernel
theorem dX6_answerBy_94 : decode cX6_answerBy 94 = .ok (.isub, 1) := by decide +kernel
theorem dX6_answerBy_95 : decode cX6_answerBy 95 = .ok (.imul, 1) := by decide +kernel
theorem dX6_answerBy_96 : decode cX6_answerBy 96 = .ok (.iadd, 1) := by decide +kernel
theorem dX6_answerBy_97 : decode cX6_answerBy 97 = .ok (.iastore, 1) := by decide +kernel
theorem dX6_answerBy_98 : decode cX6_answerBy 98 = .ok (.aload_n 0, 1) := by decide +kernel
theorem dX6_answerBy_99 : decode cX6_answerBy 99 = .ok (.iconst 1, 1) := by decide +kernel
theorem dX6_answerBy_100 : decode cX6_answerBy 100 = .ok (.putfield 49, 3) := by decide +kernel
theorem dX6_answerBy_103 : decode cX6_answerBy 103 = .ok (.goto 46, 3) := by decide +kernel
theorem dX6_answerBy_106 : decode cX6_answerBy 106 = .ok (.aload_n 0, 1) := by decide +kernel
theorem dX6_answerBy_107 : decode cX6_answerBy 107 = .ok (.getfield 34, 3) := by decide +kernel
theorem dX6_answerBy_110 : decode cX6_answerBy 110 = .ok (.iload_n 1, 1) := by decide +kernel
theorem dX6_answerBy_111 : decode cX6_answerBy 111 = .ok (.aload_n 0, 1) := by decide +kernel
theorem dX6_answerBy_112 : decode cX6_answerBy 112 = .ok (.getfield 21, 3) := by decide +kernel
theorem dX6_answerBy_115 : decode cX6_answerBy 115 = .ok (.iconst 1, 1) := by decide +kernel
theorem dX6_answerBy_116 : decode cX6_answerBy 116 = .ok (.iaload, 1) := by decide +kernel
theorem dX6_answerBy_117 : decode cX6_answerBy 117 = .ok (.ineg, 1) := by decide +kernel
theorem dX6_answerBy_118 : decode cX6_answerBy 118 = .ok (.iastore, 1) := by decide +kernel
theorem dX6_answerBy_119 : decode cX6_answerBy 119 = .ok (.aload_n 0, 1) := by decide +kernel
theorem dX6_answerBy_120 : decode cX6_answerBy 120 = .ok (.dup, 1) := by decide +kernel
theorem dX6_answerBy_121 : decode cX6_answerBy 121 = .ok (.getfield 46, 3) := by decide +kernel
theorem dX6_answerBy_124 : decode cX6_answerBy 124 = .ok (.iconst 1, 1) := by decide +kernel
theorem dX6_answerBy_125 : decode cX6_answerBy 125 = .ok (.iload_n 1, 1) := by decide +kernel
theorem dX6_answerBy_126 : decode cX6_answerBy 126 = .ok (.ishl, 1) := by decide +kernel
theorem dX6_answerBy_127 : decode cX6_answerBy 127 = .ok (.ior, 1) := by decide +kernel
theorem dX6_answerBy_128 : decode cX6_answerBy 128 = .ok (.putfield 46, 3) := by decide +kernel
theorem dX6_answerBy_131 : decode cX6_answerBy 131 = .ok (.aload_n 0, 1) := by decide +kernel
theorem dX6_answerBy_132 : decode cX6_answerBy 132 = .ok (.aload_n 0, 1) := by decide +kernel
theorem dX6_answerBy_133 : decode cX6_answerBy 133 = .ok (.getfield 21, 3) := by decide +kernel
theorem dX6_answerBy_136 : decode cX6_answerBy 136 = .ok (.iconst 3, 1) := by decide +kernel
theorem dX6_answerBy_137 : decode cX6_answerBy 137 = .ok (.iaload, 1) := by decide +kernel
theorem dX6_answerBy_138 : decode cX6_answerBy 138 = .ok (.ifCond .ne 7, 3) := by decide +kernel
theorem dX6_answerBy_141 : decode cX6_answerBy 141 = .ok (.iconst 1, 1) := by decide +kernel
theorem dX6_answerBy_142 : decode cX6_answerBy 142 = .ok (.goto 4, 3) := by decide +kernel
theorem dX6_answerBy_145 : decode cX6_answerBy 145 = .ok (.iconst 0, 1) := by decide +kernel
theorem dX6_answerBy_146 : decode cX6_answerBy 146 = .ok (.putfield 49, 3) := by decide +kernel
theorem dX6_answerBy_149 : decode cX6_answerBy 149 = .ok (.return_, 1) := by decide +kernel
set_option maxRecDepth 20000 in
theorem ggX6_total_X10_isEnd : GoodIn wsX6_total wsX10_isEnd := goodIn_r _ [7, 8, 9, 10, 11, 6, 12, 13, 88, 89, 90, 91, 92, 93, 94, 95, 96, 97, 98, 99, 100, 101, 102, 103] (by decide +kernel) (by decide +kernel)
set_option maxRecDepth 20000 in
theorem gX6_total_X10_isEnd : GoodIn wsX6_total (wsV RX6 119 RX10 yX10_isEnd wsX10_isEnd) := goodIn_app (goodIn_of _ (by decide +kernel)) ggX6_total_X10_isEnd
set_option maxRecDepth 20000 in
theorem ggX6_total_X6_runTo : GoodIn wsX6_total wsX6_runTo := goodIn_r _ [18, 2, 19, 20, 21, 22, 23, 24, 25, 26, 1, 27, 28, 29, 6, 30, 31, 9, 10, 11, 12, 13, 32, 33, 34, 17, 35, 36, 37, 38, 39, 40, 41, 42, 43, 44, 45, 46, 47, 48, 49, 50, 51, 52, 53, 54, 55, 56, 8, 57, 58, 59, 60, 61, 71, 72, 73, 74, 75, 76, 77, 78, 79, 80, 81, 82, 83, 84, 85, 86, 87, 88, 89, 90, 91, 92, 93, 94, 95, 96, 97, 98, 99, 100, 101, 102, 103, 104, 105, 106, 107, 108, 109, 110, 111, 112, 113, 114, 115, 116, 117, 118, 119, 120, 121, 122, 123] (by decide +kernel) (by decide +kernel)
set_option maxRecDepth 20000 in
theorem gX6_total_X6_runTo : GoodIn wsX6_total (wsV RX6 123 RX6 yX6_runTo wsX6_runTo) := goodIn_app (goodIn_of _ (by decide +kernel)) ggX6_total_X6_runTo
set_option maxRecDepth 20000 in
theorem ggX6_total_X10_timesOf : GoodIn wsX6_total wsX10_timesOf := goodIn_r _ [65, 66, 9, 10, 11, 6, 12, 13, 88, 89, 90, 91, 92, 93, 94, 95, 96, 97, 98, 99, 100, 101, 102, 103] (by decide +kernel) (by decide +kernel)
set_option maxRecDepth 20000 in
theorem gX6_total_X10_timesOf : GoodIn wsX6_total (wsV RX6 127 RX10 yX10_timesOf wsX10_timesOf) := goodIn_app (goodIn_of _ (by decide +kernel)) ggX6_total_X10_timesOf
set_option maxRecDepth 20000 in
theorem ggX6_total_X6_gainOf : GoodIn wsX6_total wsX6_gainOf := goodIn_r _ [70, 24, 71, 72, 73, 74, 75, 76, 77, 78, 79, 80, 81, 82, 83, 84, 85, 86, 87] (by decide +kernel) (by decide +kernel)
set_option maxRecDepth 20000 in
theorem gX6_total_X6_gainOf : GoodIn wsX6_total (wsV RX6 131 RX6 yX6_gainOf wsX6_gainOf) := goodIn_app (goodIn_of _ (by decide +kernel)) ggX6_total_X6_gainOf
theorem dX6_total_0 : decode cX6_total 0 = .ok (.lconst 0, 1) := by decide +kernel
theorem dX6_total_1 : decode cX6_total 1 = .ok (.lstore_n 3, 1) := by decide +kernel
theorem dX6_total_2 : decode cX6_total 2 = .ok (.iconst 1, 1) := by decide +kernel
theorem dX6_total_3 : decode cX6_total 3 = .ok (.istore 5, 2) := by decide +kernel
theorem dX6_total_5 : decode cX6_total 5 = .ok (.iload 5, 2) := by decide +kernel
theorem dX6_total_7 : decode cX6_total 7 = .ok (.bipush 24, 2) := by decide +kernel
theorem dX6_total_9 : decode cX6_total 9 = .ok (.if_icmp .ge 104, 3) := by decide +kernel
theorem dX6_total_12 : decode cX6_total 12 = .ok (.aload_n 0, 1) := by decide +kernel
theorem dX6_total_13 : decode cX6_total 13 = .ok (.getfield 67, 3) := by decide +kernel
theorem dX6_total_16 : decode cX6_total 16 = .ok (.iload 5, 2) := by decide +kernel
theorem dX6_total_18 : decode cX6_total 18 = .ok (.invokevirtual 119, 3) := by decide +kernel
theorem dX6_total_21 : decode cX6_total 21 = .ok (.ifCond .ne 6, 3) := by decide +kernel
theorem dX6_total_24 : decode cX6_total 24 = .ok (.goto 83, 3) := by decide +kernel
theorem dX6_total_27 : decode cX6_total 27 = .ok (.aload_n 0, 1) := by decide +kernel
theorem dX6_total_28 : decode cX6_total 28 = .ok (.iload 5, 2) := by decide +kernel
theorem dX6_total_30 : decode cX6_total 30 = .ok (.invokevirtual 123, 3) := by decide +kernel
theorem dX6_total_33 : decode cX6_total 33 = .ok (.iload_n 1, 1) := by decide +kernel
theorem dX6_total_34 : decode cX6_total 34 = .ok (.ifCond .ne 23, 3) := by decide +kernel
theorem dX6_total_37 : decode cX6_total 37 = .ok (.aload_n 0, 1) := by decide +kernel
theorem dX6_total_38 : decode cX6_total 38 = .ok (.getfield 37, 3) := by decide +kernel
theorem dX6_total_41 : decode cX6_total 41 = .ok (.iload_n 2, 1) := by decide +kernel
theorem dX6_total_42 : decode cX6_total 42 = .ok (.if_icmp .ne 15, 3) := by decide +kernel
theorem dX6_total_45 : decode cX6_total 45 = .ok (.lload_n 3, 1) := by decide +kernel
theorem dX6_total_46 : decode cX6_total 46 = .ok (.aload_n 0, 1) := by decide +kernel
theorem dX6_total_47 : decode cX6_total 47 = .ok (.getfield 67, 3) := by decide +kernel
theorem dX6_total_50 : decode cX6_total 50 = .ok (.iload 5, 2) := by decide +kernel
theorem dX6_total_52 : decode cX6_total 52 = .ok (.invokevirtual 127, 3) := by decide +kernel
theorem dX6_total_55 : decode cX6_total 55 = .ok (.ladd, 1) := by decide +kernel
theorem dX6_total_56 : decode cX6_total 56 = .ok (.lstore_n 3, 1) := by decide +kernel
theorem dX6_total_57 : decode cX6_total 57 = .ok (.iload_n 1, 1) := by decide +kernel
theorem dX6_total_58 : decode cX6_total 58 = .ok (.iconst 1, 1) := by decide +kernel
theorem dX6_total_59 : decode cX6_total 59 = .ok (.if_icmp .ne 22, 3) := by decide +kernel
theorem dX6_total_62 : decode cX6_total 62 = .ok (.lload_n 3, 1) := by decide +kernel
theorem dX6_total_63 : decode cX6_total 63 = .ok (.aload_n 0, 1) := by decide +kernel
theorem dX6_total_64 : decode cX6_total 64 = .ok (.getfield 67, 3) := by decide +kernel
theorem dX6_total_67 : decode cX6_total 67 = .ok (.iload 5, 2) := by decide +kernel
theorem dX6_total_69 : decode cX6_total 69 = .ok (.invokevirtual 127, 3) := by decide +kernel
theorem dX6_total_72 : decode cX6_total 72 = .ok (.aload_n 0, 1) := by decide +kernel
theorem dX6_total_73 : decode cX6_total 73 = .ok (.iload_n 2, 1) := by decide +kernel
theorem dX6_total_74 : decode cX6_total 74 = .ok (.invokevirtual 131, 3) := by decide +kernel
theorem dX6_total_77 : decode cX6_total 77 = .ok (.i2l, 1) := by decide +kernel
theorem dX6_total_78 : decode cX6_total 78 = .ok (.lmul, 1) := by decide +kernel
theorem dX6_total_79 : decode cX6_total 79 = .ok (.ladd, 1) := by decide +kernel
theorem dX6_total_80 : decode cX6_total 80 = .ok (.lstore_n 3, 1) := by decide +kernel
theorem dX6_total_81 : decode cX6_total 81 = .ok (.iload_n 1, 1) := by decide +kernel
theorem dX6_total_82 : decode cX6_total 82 = .ok (.iconst 2, 1) := by decide +kernel
theorem dX6_total_83 : decode cX6_total 83 = .ok (.if_icmp .ne 24, 3) := by decide +kernel
theorem dX6_total_86 : decode cX6_total 86 = .ok (.aload_n 0, 1) := by decide +kernel
theorem dX6_total_87 : decode cX6_total 87 = .ok (.getfield 37, 3) := by decide +kernel
theorem dX6_total_90 : decode cX6_total 90 = .ok (.bipush (-9), 2) := by decide +kernel
theorem dX6_total_92 : decode cX6_total 92 = .ok (.if_icmp .ne 15, 3) := by decide +kernel
theorem dX6_total_95 : decode cX6_total 95 = .ok (.lload_n 3, 1) := by decide +kernel
theorem dX6_total_96 : decode cX6_total 96 = .ok (.aload_n 0, 1) := by decide +kernel
theorem dX6_total_97 : decode cX6_total 97 = .ok (.getfield 67, 3) := by decide +kernel
theorem dX6_total_100 : decode cX6_total 100 = .ok (.iload 5, 2) := by decide +kernel
theorem dX6_total_102 : decode cX6_total 102 = .ok (.invokevirtual 127, 3) := by decide +kernel
theorem dX6_total_105 : decode cX6_total 105 = .ok (.ladd, 1) := by decide +kernel
theorem dX6_total_106 : decode cX6_total 106 = .ok (.lstore_n 3, 1) := by decide +kernel
theorem dX6_total_107 : decode cX6_total 107 = .ok (.iinc 5 1, 3) := by decide +kernel
theorem dX6_total_110 : decode cX6_total 110 = .ok (.goto (-105), 3) := by decide +kernel
theorem dX6_total_113 : decode cX6_total 113 = .ok (.lload_n 3, 1) := by decide +kernel
theorem dX6_total_114 : decode cX6_total 114 = .ok (.lreturn, 1) := by decide +kernel
set_option maxRecDepth 20000 in
theorem ggX6_dullTotal_X10_wayTo : GoodIn wsX6_dullTotal wsX10_wayTo := goodIn_r _ [8, 9, 10, 11, 12, 7, 13, 14, 42, 43, 44, 45, 46, 47, 48, 49, 50, 51, 52, 53, 54, 55, 56, 57] (by decide +kernel) (by decide +kernel)
set_option maxRecDepth 20000 in
theorem gX6_dullTotal_X10_wayTo : GoodIn wsX6_dullTotal (wsV RX6 92 RX10 yX10_wayTo wsX10_wayTo) := goodIn_app (goodIn_of _ (by decide +kernel)) ggX6_dullTotal_X10_wayTo
set_option maxRecDepth 20000 in
theorem ggX6_dullTotal_X10_isEnd : GoodIn wsX6_dullTotal wsX10_isEnd := goodIn_r _ [18, 19, 10, 11, 12, 7, 13, 14, 42, 43, 44, 45, 46, 47, 48, 49, 50, 51, 52, 53, 54, 55, 56, 57] (by decide +kernel) (by decide +kernel)
set_option maxRecDepth 20000 in
theorem gX6_dullTotal_X10_isEnd : GoodIn wsX6_dullTotal (wsV RX6 119 RX10 yX10_isEnd wsX10_isEnd) := goodIn_app (goodIn_of _ (by decide +kernel)) ggX6_dullTotal_X10_isEnd
set_option maxRecDepth 20000 in
theorem ggX6_dullTotal_X10_timesOf : GoodIn wsX6_dullTotal wsX10_timesOf := goodIn_r _ [23, 24, 10, 11, 12, 7, 13, 14, 42, 43, 44, 45, 46, 47, 48, 49, 50, 51, 52, 53, 54, 55, 56, 57] (by decide +kernel) (by decide +kernel)
set_option maxRecDepth 20000 in
theorem gX6_dullTotal_X10_timesOf : GoodIn wsX6_dullTotal (wsV RX6 127 RX10 yX10_timesOf wsX10_timesOf) := goodIn_app (goodIn_of _ (by decide +kernel)) ggX6_dullTotal_X10_timesOf
theorem dX6_dullTotal_0 : decode cX6_dullTotal 0 = .ok (.iconst 0, 1) := by decide +kernel
theorem dX6_dullTotal_1 : decode cX6_dullTotal 1 = .ok (.istore_n 1, 1) := by decide +kernel
theorem dX6_dullTotal_2 : decode cX6_dullTotal 2 = .ok (.iconst 0, 1) := by decide +kernel
theorem dX6_dullTotal_3 : decode cX6_dullTotal 3 = .ok (.istore_n 2, 1) := by decide +kernel
theorem dX6_dullTotal_4 : decode cX6_dullTotal 4 = .ok (.iload_n 2, 1) := by decide +kernel
theorem dX6_dullTotal_5 : decode cX6_dullTotal 5 = .ok (.iconst 4, 1) := by decide +kernel
theorem dX6_dullTotal_6 : decode cX6_dullTotal 6 = .ok (.if_icmp .ge 26, 3) := by decide +kernel
theorem dX6_dullTotal_9 : decode cX6_dullTotal 9 = .ok (.iload_n 2, 1) := by decide +kernel
theorem dX6_dullTotal_10 : decode cX6_dullTotal 10 = .ok (.aload_n 0, 1) := by decide +kernel
theorem dX6_dullTotal_11 : decode cX6_dullTotal 11 = .ok (.getfield 17, 3) := by decide +kernel
theorem dX6_dullTotal_14 : decode cX6_dullTotal 14 = .ok (.if_icmp .ge 18, 3) := by decide +kernel
theorem dX6_dullTotal_17 : decode cX6_dullTotal 17 = .ok (.iload_n 1, 1) := by decide +kernel
theorem dX6_dullTotal_18 : decode cX6_dullTotal 18 = .ok (.aload_n 0, 1) := by decide +kernel
theorem dX6_dullTotal_19 : decode cX6_dullTotal 19 = .ok (.getfield 28, 3) := by decide +kernel
theorem dX6_dullTotal_22 : decode cX6_dullTotal 22 = .ok (.iload_n 2, 1) := by decide +kernel
theorem dX6_dullTotal_23 : decode cX6_dullTotal 23 = .ok (.iaload, 1) := by decide +kernel
theorem dX6_dullTotal_24 : decode cX6_dullTotal 24 = .ok (.ior, 1) := by decide +kernel
theorem dX6_dullTotal_25 : decode cX6_dullTotal 25 = .ok (.istore_n 1, 1) := by decide +kernel
theorem dX6_dullTotal_26 : decode cX6_dullTotal 26 = .ok (.iinc 2 1, 3) := by decide +kernel
theorem dX6_dullTotal_29 : decode cX6_dullTotal 29 = .ok (.goto (-25), 3) := by decide +kernel
theorem dX6_dullTotal_32 : decode cX6_dullTotal 32 = .ok (.lconst 0, 1) := by decide +kernel
theorem dX6_dullTotal_33 : decode cX6_dullTotal 33 = .ok (.lstore_n 2, 1) := by decide +kernel
theorem dX6_dullTotal_34 : decode cX6_dullTotal 34 = .ok (.iconst 1, 1) := by decide +kernel
theorem dX6_dullTotal_35 : decode cX6_dullTotal 35 = .ok (.istore 4, 2) := by decide +kernel
theorem dX6_dullTotal_37 : decode cX6_dullTotal 37 = .ok (.iload 4, 2) := by decide +kernel
theorem dX6_dullTotal_39 : decode cX6_dullTotal 39 = .ok (.bipush 24, 2) := by decide +kernel
theorem dX6_dullTotal_41 : decode cX6_dullTotal 41 = .ok (.if_icmp .ge 58, 3) := by decide +kernel
theorem dX6_dullTotal_44 : decode cX6_dullTotal 44 = .ok (.aload_n 0, 1) := by decide +kernel
theorem dX6_dullTotal_45 : decode cX6_dullTotal 45 = .ok (.getfield 67, 3) := by decide +kernel
theorem dX6_dullTotal_48 : decode cX6_dullTotal 48 = .ok (.iload 4, 2) := by decide +kernel
theorem dX6_dullTotal_50 : decode cX6_dullTotal 50 = .ok (.invokevirtual 92, 3) := by decide +kernel
theorem dX6_dullTotal_53 : decode cX6_dullTotal 53 = .ok (.iconst 1, 1) := by decide +kernel
theorem dX6_dullTotal_54 : decode cX6_dullTotal 54 = .ok (.iload 4, 2) := by decide +kernel
theorem dX6_dullTotal_56 : decode cX6_dullTotal 56 = .ok (.ishl, 1) := by decide +kernel
theorem dX6_dullTotal_57 : decode cX6_dullTotal 57 = .ok (.iconst (-1), 1) := by decide +kernel
theorem dX6_dullTotal_58 : decode cX6_dullTotal 58 = .ok (.ixor, 1) := by decide +kernel
theorem dX6_dullTotal_59 : decode cX6_dullTotal 59 = .ok (.iand, 1) := by decide +kernel
theorem dX6_dullTotal_60 : decode cX6_dullTotal 60 = .ok (.istore 5, 2) := by decide +kernel
theorem dX6_dullTotal_62 : decode cX6_dullTotal 62 = .ok (.aload_n 0, 1) := by decide +kernel
theorem dX6_dullTotal_63 : decode cX6_dullTotal 63 = .ok (.getfield 67, 3) := by decide +kernel
theorem dX6_dullTotal_66 : decode cX6_dullTotal 66 = .ok (.iload 4, 2) := by decide +kernel
theorem dX6_dullTotal_68 : decode cX6_dullTotal 68 = .ok (.invokevirtual 119, 3) := by decide +kernel
theorem dX6_dullTotal_71 : decode cX6_dullTotal 71 = .ok (.ifCond .eq 22, 3) := by decide +kernel
theorem dX6_dullTotal_74 : decode cX6_dullTotal 74 = .ok (.iload 5, 2) := by decide +kernel
theorem dX6_dullTotal_76 : decode cX6_dullTotal 76 = .ok (.iload_n 1, 1) := by decide +kernel
theorem dX6_dullTotal_77 : decode cX6_dullTotal 77 = .ok (.iand, 1) := by decide +kernel
theorem dX6_dullTotal_78 : decode cX6_dullTotal 78 = .ok (.ifCond .ne 15, 3) := by decide +kernel
theorem dX6_dullTotal_81 : decode cX6_dullTotal 81 = .ok (.lload_n 2, 1) := by decide +kernel
theorem dX6_dullTotal_82 : decode cX6_dullTotal 82 = .ok (.aload_n 0, 1) := by decide +kernel
theorem dX6_dullTotal_83 : decode cX6_dullTotal 83 = .ok (.getfield 67, 3) := by decide +kernel
theorem dX6_dullTotal_86 : decode cX6_dullTotal 86 = .ok (.iload 4, 2) := by decide +kernel
theorem dX6_dullTotal_88 : decode cX6_dullTotal 88 = .ok (.invokevirtual 127, 3) := by decide +kernel
theorem dX6_dullTotal_91 : decode cX6_dullTotal 91 = .ok (.ladd, 1) := by decide +kernel
theorem dX6_dullTotal_92 : decode cX6_dullTotal 92 = .ok (.lstore_n 2, 1) := by decide +kernel
theorem dX6_dullTotal_93 : decode cX6_dullTotal 93 = .ok (.iinc 4 1, 3) := by decide +kernel
theorem dX6_dullTotal_96 : decode cX6_dullTotal 96 = .ok (.goto (-59), 3) := by decide +kernel
theorem dX6_dullTotal_99 : decode cX6_dullTotal 99 = .ok (.lload_n 2, 1) := by decide +kernel
theorem dX6_dullTotal_100 : decode cX6_dullTotal 100 = .ok (.lreturn, 1) := by decide +kernel
set_option maxRecDepth 20000 in
theorem ggX6_aloneSet_X10_has : GoodIn wsX6_aloneSet wsX10_has := goodIn_r _ [8, 9, 45, 46, 47, 48, 49, 50, 51, 52, 53, 54, 55, 56, 57, 58, 59, 60] (by decide +kernel) (by decide +kernel)
set_option maxRecDepth 20000 in
theorem gX6_aloneSet_X10_has : GoodIn wsX6_aloneSet (wsV RX6 134 RX10 yX10_has wsX10_has) := goodIn_app (goodIn_of _ (by decide +kernel)) ggX6_aloneSet_X10_has
set_option maxRecDepth 20000 in
theorem ggX6_aloneSet_X10_meanNext : GoodIn wsX6_aloneSet wsX10_meanNext := goodIn_r _ [13, 9, 14, 15, 45, 46, 47, 48, 49, 50, 51, 52, 53, 54, 55, 56, 57, 58, 59, 60] (by decide +kernel) (by decide +kernel)
set_option maxRecDepth 20000 in
theorem gX6_aloneSet_X10_meanNext : GoodIn wsX6_aloneSet (wsV RX6 137 RX10 yX10_meanNext wsX10_meanNext) := goodIn_app (goodIn_of _ (by decide +kernel)) ggX6_aloneSet_X10_meanNext
set_option maxRecDepth 20000 in
theorem ggX6_aloneSet_X10_guessAt : GoodIn wsX6_aloneSet wsX10_guessAt := goodIn_r _ [19, 20, 21, 5, 6, 7, 8, 9, 45, 46, 47, 48, 49, 50, 51, 52, 53, 54, 55, 56, 57, 58, 59, 60] (by decide +kernel) (by decide +kernel)
set_option maxRecDepth 20000 in
theorem gX6_aloneSet_X10_guessAt : GoodIn wsX6_aloneSet (wsV RX6 109 RX10 yX10_guessAt wsX10_guessAt) := goodIn_app (goodIn_of _ (by decide +kernel)) ggX6_aloneSet_X10_guessAt
set_option maxRecDepth 20000 in
theorem ggX6_aloneSet_X10_pressValue : GoodIn wsX6_aloneSet wsX10_pressValue := goodIn_r _ [25, 20, 26, 27, 21, 5, 6, 7, 8, 9, 45, 46, 47, 48, 49, 50, 51, 52, 53, 54, 55, 56, 57, 58, 59, 60] (by decide +kernel) (by decide +kernel)
set_option maxRecDepth 20000 in
theorem gX6_aloneSet_X10_pressValue : GoodIn wsX6_aloneSet (wsV RX6 141 RX10 yX10_pressValue wsX10_pressValue) := goodIn_app (goodIn_of _ (by decide +kernel)) ggX6_aloneSet_X10_pressValue
theorem dX6_aloneSet_0 : decode cX6_aloneSet 0 = .ok (.iconst 0, 1) := by decide +kernel
theorem dX6_aloneSet_1 : decode cX6_aloneSet 1 = .ok (.istore_n 2, 1) := by decide +kernel
theorem dX6_aloneSet_2 : decode cX6_aloneSet 2 = .ok (.bipush 23, 2) := by decide +kernel
theorem dX6_aloneSet_4 : decode cX6_aloneSet 4 = .ok (.istore_n 3, 1) := by decide +kernel
theorem dX6_aloneSet_5 : decode cX6_aloneSet 5 = .ok (.iload_n 3, 1) := by decide +kernel
theorem dX6_aloneSet_6 : decode cX6_aloneSet 6 = .ok (.ifCond .lt 124, 3) := by decide +kernel
theorem dX6_aloneSet_9 : decode cX6_aloneSet 9 = .ok (.aload_n 0, 1) := by decide +kernel
theorem dX6_aloneSet_10 : decode cX6_aloneSet 10 = .ok (.getfield 67, 3) := by decide +kernel
theorem dX6_aloneSet_13 : decode cX6_aloneSet 13 = .ok (.iload_n 3, 1) := by decide +kernel
theorem dX6_aloneSet_14 : decode cX6_aloneSet 14 = .ok (.invokevirtual 134, 3) := by decide +kernel
theorem dX6_aloneSet_17 : decode cX6_aloneSet 17 = .ok (.ifCond .ne 6, 3) := by decide +kernel
theorem dX6_aloneSet_20 : decode cX6_aloneSet 20 = .ok (.goto 104, 3) := by decide +kernel
theorem dX6_aloneSet_23 : decode cX6_aloneSet 23 = .ok (.aload_n 0, 1) := by decide +kernel
theorem dX6_aloneSet_24 : decode cX6_aloneSet 24 = .ok (.getfield 53, 3) := by decide +kernel
theorem dX6_aloneSet_27 : decode cX6_aloneSet 27 = .ok (.iload_n 3, 1) := by decide +kernel
theorem dX6_aloneSet_28 : decode cX6_aloneSet 28 = .ok (.aload_n 0, 1) := by decide +kernel
theorem dX6_aloneSet_29 : decode cX6_aloneSet 29 = .ok (.getfield 67, 3) := by decide +kernel
theorem dX6_aloneSet_32 : decode cX6_aloneSet 32 = .ok (.aload_n 0, 1) := by decide +kernel
theorem dX6_aloneSet_33 : decode cX6_aloneSet 33 = .ok (.getfield 53, 3) := by decide +kernel
theorem dX6_aloneSet_36 : decode cX6_aloneSet 36 = .ok (.iload_n 3, 1) := by decide +kernel
theorem dX6_aloneSet_37 : decode cX6_aloneSet 37 = .ok (.invokevirtual 137, 3) := by decide +kernel
theorem dX6_aloneSet_40 : decode cX6_aloneSet 40 = .ok (.lastore, 1) := by decide +kernel
theorem dX6_aloneSet_41 : decode cX6_aloneSet 41 = .ok (.iload_n 3, 1) := by decide +kernel
theorem dX6_aloneSet_42 : decode cX6_aloneSet 42 = .ok (.ifCond .ne 7, 3) := by decide +kernel
theorem dX6_aloneSet_45 : decode cX6_aloneSet 45 = .ok (.iconst 0, 1) := by decide +kernel
theorem dX6_aloneSet_46 : decode cX6_aloneSet 46 = .ok (.goto 12, 3) := by decide +kernel
theorem dX6_aloneSet_49 : decode cX6_aloneSet 49 = .ok (.aload_n 0, 1) := by decide +kernel
theorem dX6_aloneSet_50 : decode cX6_aloneSet 50 = .ok (.getfield 67, 3) := by decide +kernel
theorem dX6_aloneSet_53 : decode cX6_aloneSet 53 = .ok (.iload_n 3, 1) := by decide +kernel
theorem dX6_aloneSet_54 : decode cX6_aloneSet 54 = .ok (.iload_n 1, 1) := by decide +kernel
theorem dX6_aloneSet_55 : decode cX6_aloneSet 55 = .ok (.invokevirtual 109, 3) := by decide +kernel
theorem dX6_aloneSet_58 : decode cX6_aloneSet 58 = .ok (.istore 4, 2) := by decide +kernel
theorem dX6_aloneSet_60 : decode cX6_aloneSet 60 = .ok (.iload 4, 2) := by decide +kernel
theorem dX6_aloneSet_62 : decode cX6_aloneSet 62 = .ok (.ifCond .ne 6, 3) := by decide +kernel
theorem dX6_aloneSet_65 : decode cX6_aloneSet 65 = .ok (.goto 59, 3) := by decide +kernel
theorem dX6_aloneSet_68 : decode cX6_aloneSet 68 = .ok (.aload_n 0, 1) := by decide +kernel
theorem dX6_aloneSet_69 : decode cX6_aloneSet 69 = .ok (.getfield 67, 3) := by decide +kernel
theorem dX6_aloneSet_72 : decode cX6_aloneSet 72 = .ok (.iload_n 3, 1) := by decide +kernel
theorem dX6_aloneSet_73 : decode cX6_aloneSet 73 = .ok (.iload 4, 2) := by decide +kernel
theorem dX6_aloneSet_75 : decode cX6_aloneSet 75 = .ok (.aload_n 0, 1) := by decide +kernel
theorem dX6_aloneSet_76 : decode cX6_aloneSet 76 = .ok (.getfield 21, 3) := by decide +kernel
theorem dX6_aloneSet_79 : decode cX6_aloneSet 79 = .ok (.iconst 0, 1) := by decide +kernel
theorem dX6_aloneSet_80 : decode cX6_aloneSet 80 = .ok (.iaload, 1) := by decide +kernel
theorem dX6_aloneSet_81 : decode cX6_aloneSet 81 = .ok (.aload_n 0, 1) := by decide +kernel
theorem dX6_aloneSet_82 : decode cX6_aloneSet 82 = .ok (.getfield 21, 3) := by decide +kernel
theorem dX6_aloneSet_85 : decode cX6_aloneSet 85 = .ok (.iconst 1, 1) := by decide +kernel
theorem dX6_aloneSet_86 : decode cX6_aloneSet 86 = .ok (.iaload, 1) := by decide +kernel
theorem dX6_aloneSet_87 : decode cX6_aloneSet 87 = .ok (.aload_n 0, 1) := by decide +kernel
theorem dX6_aloneSet_88 : decode cX6_aloneSet 88 = .ok (.getfield 21, 3) := by decide +kernel
theorem dX6_aloneSet_91 : decode cX6_aloneSet 91 = .ok (.iconst 2, 1) := by decide +kernel
theorem dX6_aloneSet_92 : decode cX6_aloneSet 92 = .ok (.iaload, 1) := by decide +kernel
theorem dX6_aloneSet_93 : decode cX6_aloneSet 93 = .ok (.invokevirtual 141, 3) := by decide +kernel
theorem dX6_aloneSet_96 : decode cX6_aloneSet 96 = .ok (.lstore 5, 2) := by decide +kernel
theorem dX6_aloneSet_98 : decode cX6_aloneSet 98 = .ok (.lload 5, 2) := by decide +kernel
theorem dX6_aloneSet_100 : decode cX6_aloneSet 100 = .ok (.aload_n 0, 1) := by decide +kernel
theorem dX6_aloneSet_101 : decode cX6_aloneSet 101 = .ok (.getfield 53, 3) := by decide +kernel
theorem dX6_aloneSet_104 : decode cX6_aloneSet 104 = .ok (.iload_n 3, 1) := by decide +kernel
theorem dX6_aloneSet_105 : decode cX6_aloneSet 105 = .ok (.laload, 1) := by decide +kernel
theorem dX6_aloneSet_106 : decode cX6_aloneSet 106 = .ok (.lcmp, 1) := by decide +kernel
theorem dX6_aloneSet_107 : decode cX6_aloneSet 107 = .ok (.ifCond .lt 17, 3) := by decide +kernel
theorem dX6_aloneSet_110 : decode cX6_aloneSet 110 = .ok (.aload_n 0, 1) := by decide +kernel
theorem dX6_aloneSet_111 : decode cX6_aloneSet 111 = .ok (.getfield 53, 3) := by decide +kernel
theorem dX6_aloneSet_114 : decode cX6_aloneSet 114 = .ok (.iload_n 3, 1) := by decide +kernel
theorem dX6_aloneSet_115 : decode cX6_aloneSet 115 = .ok (.lload 5, 2) := by decide +kernel
theorem dX6_aloneSet_117 : decode cX6_aloneSet 117 = .ok (.lastore, 1) := by decide +kernel
theorem dX6_aloneSet_118 : decode cX6_aloneSet 118 = .ok (.iload_n 2, 1) := by decide +kernel
theorem dX6_aloneSet_119 : decode cX6_aloneSet 119 = .ok (.iconst 1, 1) := by decide +kernel
theorem dX6_aloneSet_120 : decode cX6_aloneSet 120 = .ok (.iload_n 3, 1) := by decide +kernel
theorem dX6_aloneSet_121 : decode cX6_aloneSet 121 = .ok (.ishl, 1) := by decide +kernel
theorem dX6_aloneSet_122 : decode cX6_aloneSet 122 = .ok (.ior, 1) := by decide +kernel
theorem dX6_aloneSet_123 : decode cX6_aloneSet 123 = .ok (.istore_n 2, 1) := by decide +kernel
theorem dX6_aloneSet_124 : decode cX6_aloneSet 124 = .ok (.iinc 3 (-1), 3) := by decide +kernel
theorem dX6_aloneSet_127 : decode cX6_aloneSet 127 = .ok (.goto (-122), 3) := by decide +kernel
theorem dX6_aloneSet_130 : decode cX6_aloneSet 130 = .ok (.iload_n 2, 1) := by decide +kernel
theorem dX6_aloneSet_131 : decode cX6_aloneSet 131 = .ok (.ireturn, 1) := by decide +kernel
set_option maxRecDepth 20000 in
theorem ggX6_bestReply_X6_prepare : GoodIn wsX6_bestReply wsX6_prepare := goodIn_r _ [8, 9, 10, 11, 12, 13, 14, 15, 16, 17, 18, 19, 20, 21, 22, 23, 24, 25, 7, 26, 27, 28, 29, 30, 31, 32, 33, 34, 35, 36, 37, 38, 39, 40, 41, 42, 43, 44, 45, 46, 47, 48, 49, 50, 51, 52, 53, 54, 55, 56, 57, 58, 59, 60, 61, 62, 63, 64, 65, 66, 67, 68, 69, 70, 71, 72, 73, 74, 75, 76, 77, 78, 79, 80, 81, 82, 83, 84, 85, 86, 87, 88, 89, 90, 91, 92, 93, 94, 95, 96, 97, 98, 99, 100, 101, 102, 103, 104, 105, 106, 107, 108, 109, 110, 111, 112, 113, 114, 115, 116, 117, 118, 177, 178, 179, 180, 181, 182, 183, 184, 185, 186, 187, 188, 189, 190, 191, 192, 193, 194, 195, 196, 197, 198, 199, 200, 201, 202, 203, 204, 205, 206, 207, 208, 209, 210, 211, 212, 213, 214, 215, 216, 217, 218, 219, 220, 221, 222, 223, 224, 225, 226, 227, 228, 229] (by decide +kernel) (by decide +kernel)
set_option maxRecDepth 20000 in
theorem gX6_bestReply_X6_prepare : GoodIn wsX6_bestReply (wsV RX6 145 RX6 yX6_prepare wsX6_prepare) := goodIn_app (goodIn_of _ (by decide +kernel)) ggX6_bestReply_X6_prepare
set_option maxRecDepth 20000 in
theorem ggX6_bestReply_X6_tryReply : GoodIn wsX6_bestReply wsX6_tryReply := goodIn_r _ [122, 11, 14, 15, 3, 1, 123, 124, 125, 7, 126, 12, 127, 128, 129, 130, 19, 131, 105, 54, 40, 41, 42, 21, 132, 133, 134, 135, 136, 137, 138, 139, 9, 140, 141, 142, 143, 144, 145, 146, 147, 148, 149, 10, 150, 151, 152, 153, 154, 13, 38, 155, 156, 157, 158, 49, 50, 51, 52, 53, 159, 160, 161, 162, 163, 164, 165, 166, 167, 168, 169, 170, 171, 172, 173, 174, 175, 176, 177, 178, 179, 180, 181, 182, 183, 184, 185, 186, 187, 188, 189, 190, 191, 192, 193, 214, 215, 216, 217, 218, 219, 220, 221, 222, 223, 224, 225, 226, 227, 228, 229, 194, 195, 196, 197, 198, 199, 200, 201, 202, 203, 204, 205, 206, 207, 208, 209, 210, 211, 212, 213] (by decide +kernel) (by decide +kernel)
set_option maxRecDepth 20000 in
theorem gX6_bestReply_X6_tryReply : GoodIn wsX6_bestReply (wsV RX6 150 RX6 yX6_tryReply wsX6_tryReply) := goodIn_app (goodIn_of _ (by decide +kernel)) ggX6_bestReply_X6_tryReply
theorem dX6_bestReply_0 : decode cX6_bestReply 0 = .ok (.aload_n 0, 1) := by decide +kernel
theorem dX6_bestReply_1 : decode cX6_bestReply 1 = .ok (.invokevirtual 145, 3) := by decide +kernel
theorem dX6_bestReply_4 : decode cX6_bestReply 4 = .ok (.aload_n 0, 1) := by decide +kernel
theorem dX6_bestReply_5 : decode cX6_bestReply 5 = .ok (.iconst 0, 1) := by decide +kernel
theorem dX6_bestReply_6 : decode cX6_bestReply 6 = .ok (.putfield 57, 3) := by decide +kernel
theorem dX6_bestReply_9 : decode cX6_bestReply 9 = .ok (.aload_n 0, 1) := by decide +kernel
theorem dX6_bestReply_10 : decode cX6_bestReply 10 = .ok (.ldc2_w 148, 3) := by decide +kernel
theorem dX6_bestReply_13 : decode cX6_bestReply 13 = .ok (.putfield 60, 3) := by decide +kernel
theorem dX6_bestReply_16 : decode cX6_bestReply 16 = .ok (.aload_n 0, 1) := by decide +kernel
theorem dX6_bestReply_17 : decode cX6_bestReply 17 = .ok (.iload_n 1, 1) := by decide +kernel
theorem dX6_bestReply_18 : decode cX6_bestReply 18 = .ok (.iconst 0, 1) := by decide +kernel
theorem dX6_bestReply_19 : decode cX6_bestReply 19 = .ok (.invokevirtual 150, 3) := by decide +kernel
theorem dX6_bestReply_22 : decode cX6_bestReply 22 = .ok (.iconst 1, 1) := by decide +kernel
theorem dX6_bestReply_23 : decode cX6_bestReply 23 = .ok (.istore_n 3, 1) := by decide +kernel
theorem dX6_bestReply_24 : decode cX6_bestReply 24 = .ok (.iload_n 3, 1) := by decide +kernel
theorem dX6_bestReply_25 : decode cX6_bestReply 25 = .ok (.bipush 24, 2) := by decide +kernel
theorem dX6_bestReply_27 : decode cX6_bestReply 27 = .ok (.if_icmp .ge 22, 3) := by decide +kernel
theorem dX6_bestReply_30 : decode cX6_bestReply 30 = .ok (.iload_n 2, 1) := by decide +kernel
theorem dX6_bestReply_31 : decode cX6_bestReply 31 = .ok (.iconst 1, 1) := by decide +kernel
theorem dX6_bestReply_32 : decode cX6_bestReply 32 = .ok (.if_icmp .lt 17, 3) := by decide +kernel
theorem dX6_bestReply_35 : decode cX6_bestReply 35 = .ok (.aload_n 0, 1) := by decide +kernel
theorem dX6_bestReply_36 : decode cX6_bestReply 36 = .ok (.iload_n 1, 1) := by decide +kernel
theorem dX6_bestReply_37 : decode cX6_bestReply 37 = .ok (.iconst 1, 1) := by decide +kernel
theorem dX6_bestReply_38 : decode cX6_bestReply 38 = .ok (.iload_n 3, 1) := by decide +kernel
theorem dX6_bestReply_39 : decode cX6_bestReply 39 = .ok (.ishl, 1) := by decide +kernel
theorem dX6_bestReply_40 : decode cX6_bestReply 40 = .ok (.invokevirtual 150, 3) := by decide +kernel
theorem dX6_bestReply_43 : decode cX6_bestReply 43 = .ok (.iinc 3 1, 3) := by decide +kernel
theorem dX6_bestReply_46 : decode cX6_bestReply 46 = .ok (.goto (-22), 3) := by decide +kernel
theorem dX6_bestReply_49 : decode cX6_bestReply 49 = .ok (.iconst 2, 1) := by decide +kernel
theorem dX6_bestReply_50 : decode cX6_bestReply 50 = .ok (.istore_n 3, 1) := by decide +kernel
theorem dX6_bestReply_51 : decode cX6_bestReply 51 = .ok (.iload_n 3, 1) := by decide +kernel
theorem dX6_bestReply_52 : decode cX6_bestReply 52 = .ok (.bipush 24, 2) := by decide +kernel
theorem dX6_bestReply_54 : decode cX6_bestReply 54 = .ok (.if_icmp .ge 42, 3) := by decide +kernel
theorem dX6_bestReply_57 : decode cX6_bestReply 57 = .ok (.iload_n 2, 1) := by decide +kernel
theorem dX6_bestReply_58 : decode cX6_bestReply 58 = .ok (.iconst 2, 1) := by decide +kernel
theorem dX6_bestReply_59 : decode cX6_bestReply 59 = .ok (.if_icmp .lt 37, 3) := by decide +kernel
theorem dX6_bestReply_62 : decode cX6_bestReply 62 = .ok (.iconst 1, 1) := by decide +kernel
theorem dX6_bestReply_63 : decode cX6_bestReply 63 = .ok (.istore 4, 2) := by decide +kernel
theorem dX6_bestReply_65 : decode cX6_bestReply 65 = .ok (.iload 4, 2) := by decide +kernel
theorem dX6_bestReply_67 : decode cX6_bestReply 67 = .ok (.iload_n 3, 1) := by decide +kernel
theorem dX6_bestReply_68 : decode cX6_bestReply 68 = .ok (.if_icmp .ge 22, 3) := by decide +kernel
theorem dX6_bestReply_71 : decode cX6_bestReply 71 = .ok (.aload_n 0, 1) := by decide +kernel
theorem dX6_bestReply_72 : decode cX6_bestReply 72 = .ok (.iload_n 1, 1) := by decide +kernel
theorem dX6_bestReply_73 : decode cX6_bestReply 73 = .ok (.iconst 1, 1) := by decide +kernel
theorem dX6_bestReply_74 : decode cX6_bestReply 74 = .ok (.iload_n 3, 1) := by decide +kernel
theorem dX6_bestReply_75 : decode cX6_bestReply 75 = .ok (.ishl, 1) := by decide +kernel
theorem dX6_bestReply_76 : decode cX6_bestReply 76 = .ok (.iconst 1, 1) := by decide +kernel
theorem dX6_bestReply_77 : decode cX6_bestReply 77 = .ok (.iload 4, 2) := by decide +kernel
theorem dX6_bestReply_79 : decode cX6_bestReply 79 = .ok (.ishl, 1) := by decide +kernel
theorem dX6_bestReply_80 : decode cX6_bestReply 80 = .ok (.ior, 1) := by decide +kernel
theorem dX6_bestReply_81 : decode cX6_bestReply 81 = .ok (.invokevirtual 150, 3) := by decide +kernel
theorem dX6_bestReply_84 : decode cX6_bestReply 84 = .ok (.iinc 4 1, 3) := by decide +kernel
theorem dX6_bestReply_87 : decode cX6_bestReply 87 = .ok (.goto (-22), 3) := by decide +kernel
theorem dX6_bestReply_90 : decode cX6_bestReply 90 = .ok (.iinc 3 1, 3) := by decide +kernel
theorem dX6_bestReply_93 : decode cX6_bestReply 93 = .ok (.goto (-42), 3) := by decide +kernel
theorem dX6_bestReply_96 : decode cX6_bestReply 96 = .ok (.aload_n 0, 1) := by decide +kernel
theorem dX6_bestReply_97 : decode cX6_bestReply 97 = .ok (.getfield 57, 3) := by decide +kernel
theorem dX6_bestReply_100 : decode cX6_bestReply 100 = .ok (.ireturn, 1) := by decide +kernel
set_option maxRecDepth 20000 in
theorem ggX6_tryReply_X6_total : GoodIn wsX6_tryReply wsX6_total := goodIn_r _ [10, 11, 12, 13, 14, 15, 16, 17, 18, 19, 20, 21, 22, 23, 24, 25, 26, 9, 27, 28, 29, 30, 31, 32, 33, 2, 3, 34, 35, 36, 37, 38, 39, 40, 41, 42, 43, 44, 45, 46, 47, 48, 49, 50, 51, 52, 53, 54, 55, 56, 57, 58, 59, 60, 61, 62, 63, 64, 65, 66, 67, 68, 69, 70, 71, 72, 73, 74, 75, 76, 77, 78, 79, 80, 81, 82, 83, 84, 85, 86, 87, 88, 89, 90, 91, 92, 93, 94, 95, 96, 97, 98, 99, 100, 101, 102, 103, 104, 105, 106, 107, 108, 109, 110, 111, 112, 113, 114, 115, 116, 117, 118, 119, 120, 121, 122, 123, 124, 125, 126, 127, 128, 129, 130] (by decide +kernel) (by decide +kernel)
set_option maxRecDepth 20000 in
theorem gX6_tryReply_X6_total : GoodIn wsX6_tryReply (wsV RX6 154 RX6 yX6_total wsX6_total) := goodIn_app (goodIn_of _ (by decide +kernel)) ggX6_tryReply_X6_total
theorem dX6_tryReply_0 : decode cX6_tryReply 0 = .ok (.iload_n 1, 1) := by decide +kernel
theorem dX6_tryReply_1 : decode cX6_tryReply 1 = .ok (.ifCond .lt 8, 3) := by decide +kernel
theorem dX6_tryReply_4 : decode cX6_tryReply 4 = .ok (.iload_n 1, 1) := by decide +kernel
theorem dX6_tryReply_5 : decode cX6_tryReply 5 = .ok (.iconst 4, 1) := by decide +kernel
theorem dX6_tryReply_6 : decode cX6_tryReply 6 = .ok (.if_icmp .lt 4, 3) := by decide +kernel
theorem dX6_tryReply_9 : decode cX6_tryReply 9 = .ok (.return_, 1) := by decide +kernel
theorem dX6_tryReply_10 : decode cX6_tryReply 10 = .ok (.iload_n 2, 1) := by decide +kernel
theorem dX6_tryReply_11 : decode cX6_tryReply 11 = .ok (.aload_n 0, 1) := by decide +kernel
theorem dX6_tryReply_12 : decode cX6_tryReply 12 = .ok (.getfield 25, 3) := by decide +kernel
theorem dX6_tryReply_15 : decode cX6_tryReply 15 = .ok (.iload_n 1, 1) := by decide +kernel
theorem dX6_tryReply_16 : decode cX6_tryReply 16 = .ok (.iaload, 1) := by decide +kernel
theorem dX6_tryReply_17 : decode cX6_tryReply 17 = .ok (.iconst (-1), 1) := by decide +kernel
theorem dX6_tryReply_18 : decode cX6_tryReply 18 = .ok (.ixor, 1) := by decide +kernel
theorem dX6_tryReply_19 : decode cX6_tryReply 19 = .ok (.iand, 1) := by decide +kernel
theorem dX6_tryReply_20 : decode cX6_tryReply 20 = .ok (.ifCond .eq 4, 3) := by decide +kernel
theorem dX6_tryReply_23 : decode cX6_tryReply 23 = .ok (.return_, 1) := by decide +kernel
theorem dX6_tryReply_24 : decode cX6_tryReply 24 = .ok (.aload_n 0, 1) := by decide +kernel
theorem dX6_tryReply_25 : decode cX6_tryReply 25 = .ok (.getfield 28, 3) := by decide +kernel
theorem dX6_tryReply_28 : decode cX6_tryReply 28 = .ok (.iload_n 1, 1) := by decide +kernel
theorem dX6_tryReply_29 : decode cX6_tryReply 29 = .ok (.iload_n 2, 1) := by decide +kernel
theorem dX6_tryReply_30 : decode cX6_tryReply 30 = .ok (.iastore, 1) := by decide +kernel
theorem dX6_tryReply_31 : decode cX6_tryReply 31 = .ok (.aload_n 0, 1) := by decide +kernel
theorem dX6_tryReply_32 : decode cX6_tryReply 32 = .ok (.getfield 31, 3) := by decide +kernel
theorem dX6_tryReply_35 : decode cX6_tryReply 35 = .ok (.iload_n 1, 1) := by decide +kernel
theorem dX6_tryReply_36 : decode cX6_tryReply 36 = .ok (.iload_n 2, 1) := by decide +kernel
theorem dX6_tryReply_37 : decode cX6_tryReply 37 = .ok (.iastore, 1) := by decide +kernel
theorem dX6_tryReply_38 : decode cX6_tryReply 38 = .ok (.aload_n 0, 1) := by decide +kernel
theorem dX6_tryReply_39 : decode cX6_tryReply 39 = .ok (.iconst 1, 1) := by decide +kernel
theorem dX6_tryReply_40 : decode cX6_tryReply 40 = .ok (.iload_n 1, 1) := by decide +kernel
theorem dX6_tryReply_41 : decode cX6_tryReply 41 = .ok (.invokevirtual 154, 3) := by decide +kernel
theorem dX6_tryReply_44 : decode cX6_tryReply 44 = .ok (.lstore_n 3, 1) := by decide +kernel
theorem dX6_tryReply_45 : decode cX6_tryReply 45 = .ok (.lload_n 3, 1) := by decide +kernel
theorem dX6_tryReply_46 : decode cX6_tryReply 46 = .ok (.aload_n 0, 1) := by decide +kernel
theorem dX6_tryReply_47 : decode cX6_tryReply 47 = .ok (.getfield 60, 3) := by decide +kernel
theorem dX6_tryReply_50 : decode cX6_tryReply 50 = .ok (.lcmp, 1) := by decide +kernel
theorem dX6_tryReply_51 : decode cX6_tryReply 51 = .ok (.ifCond .le 13, 3) := by decide +kernel
theorem dX6_tryReply_54 : decode cX6_tryReply 54 = .ok (.aload_n 0, 1) := by decide +kernel
theorem dX6_tryReply_55 : decode cX6_tryReply 55 = .ok (.lload_n 3, 1) := by decide +kernel
theorem dX6_tryReply_56 : decode cX6_tryReply 56 = .ok (.putfield 60, 3) := by decide +kernel
theorem dX6_tryReply_59 : decode cX6_tryReply 59 = .ok (.aload_n 0, 1) := by decide +kernel
theorem dX6_tryReply_60 : decode cX6_tryReply 60 = .ok (.iload_n 2, 1) := by decide +kernel
theorem dX6_tryReply_61 : decode cX6_tryReply 61 = .ok (.putfield 57, 3) := by decide +kernel
theorem dX6_tryReply_64 : decode cX6_tryReply 64 = .ok (.return_, 1) := by decide +kernel
set_option maxRecDepth 20000 in
theorem ggX6_leastWrong_X6_prepare : GoodIn wsX6_leastWrong wsX6_prepare := goodIn_r _ [8, 9, 10, 11, 3, 12, 13, 14, 15, 16, 17, 18, 19, 20, 21, 22, 23, 24, 7, 25, 26, 27, 28, 29, 30, 31, 32, 33, 34, 35, 36, 1, 37, 38, 39, 40, 41, 42, 43, 44, 45, 46, 47, 48, 49, 50, 51, 52, 53, 54, 55, 56, 57, 58, 59, 60, 61, 62, 63, 64, 65, 66, 67, 68, 69, 70, 71, 72, 73, 74, 75, 76, 77, 78, 79, 80, 81, 82, 83, 84, 85, 86, 87, 88, 89, 90, 91, 92, 93, 94, 95, 96, 97, 98, 99, 100, 101, 102, 103, 104, 105, 106, 107, 108, 109, 110, 111, 112, 113, 114, 115, 116, 139, 140, 141, 142, 143, 144, 145, 146, 147, 148, 149, 150, 151, 152, 153, 154, 155, 156, 157, 158, 159, 160, 161, 162, 163, 164, 165, 166, 167, 168, 169, 170, 171, 172, 173, 174, 175, 176, 177, 178, 179, 180, 181, 182, 183, 184, 185, 186, 187, 188, 189, 190, 191] (by decide +kernel) (by decide +kernel)
set_option maxRecDepth 20000 in
theorem gX6_leastWrong_X6_prepare : GoodIn wsX6_leastWrong (wsV RX6 145 RX6 yX6_prepare wsX6_prepare) := goodIn_app (goodIn_of _ (by decide +kernel)) ggX6_leastWrong_X6_prepare
set_option maxRecDepth 20000 in
theorem ggX6_leastWrong_X6_dullTotal : GoodIn wsX6_leastWrong wsX6_dullTotal := goodIn_r _ [120, 9, 13, 3, 121, 122, 123, 18, 124, 125, 52, 38, 39, 40, 20, 126, 127, 128, 129, 103, 130, 131, 132, 133, 134, 139, 140, 141, 142, 143, 144, 145, 146, 147, 148, 149, 150, 151, 152, 153, 154, 155, 176, 177, 178, 179, 180, 181, 182, 183, 184, 185, 186, 187, 188, 189, 190, 191] (by decide +kernel) (by decide +kernel)
set_option maxRecDepth 20000 in
theorem gX6_leastWrong_X6_dullTotal : GoodIn wsX6_leastWrong (wsV RX6 161 RX6 yX6_dullTotal wsX6_dullTotal) := goodIn_app (goodIn_of _ (by decide +kernel)) ggX6_leastWrong_X6_dullTotal
set_option maxRecDepth 20000 in
theorem ggX6_leastWrong_X10_belowOf : GoodIn wsX6_leastWrong wsX10_belowOf := goodIn_r _ [138, 58, 52, 38, 39, 18, 40, 20, 176, 177, 178, 179, 180, 181, 182, 183, 184, 185, 186, 187, 188, 189, 190, 191] (by decide +kernel) (by decide +kernel)
set_option maxRecDepth 20000 in
theorem gX6_leastWrong_X10_belowOf : GoodIn wsX6_leastWrong (wsV RX6 167 RX10 yX10_belowOf wsX10_belowOf) := goodIn_app (goodIn_of _ (by decide +kernel)) ggX6_leastWrong_X10_belowOf
theorem dX6_leastWrong_0 : decode cX6_leastWrong 0 = .ok (.aload_n 0, 1) := by decide +kernel
theorem dX6_leastWrong_1 : decode cX6_leastWrong 1 = .ok (.getfield 21, 3) := by decide +kernel
theorem dX6_leastWrong_4 : decode cX6_leastWrong 4 = .ok (.iconst 1, 1) := by decide +kernel
theorem dX6_leastWrong_5 : decode cX6_leastWrong 5 = .ok (.iaload, 1) := by decide +kernel
theorem dX6_leastWrong_6 : decode cX6_leastWrong 6 = .ok (.istore_n 2, 1) := by decide +kernel
theorem dX6_leastWrong_7 : decode cX6_leastWrong 7 = .ok (.bipush (-9), 2) := by decide +kernel
theorem dX6_leastWrong_9 : decode cX6_leastWrong 9 = .ok (.istore_n 3, 1) := by decide +kernel
theorem dX6_leastWrong_10 : decode cX6_leastWrong 10 = .ok (.iconst 0, 1) := by decide +kernel
theorem dX6_leastWrong_11 : decode cX6_leastWrong 11 = .ok (.istore 4, 2) := by decide +kernel
theorem dX6_leastWrong_13 : decode cX6_leastWrong 13 = .ok (.iload 4, 2) := by decide +kernel
theorem dX6_leastWrong_15 : decode cX6_leastWrong 15 = .ok (.getstatic 158, 3) := by decide +kernel
theorem dX6_leastWrong_18 : decode cX6_leastWrong 18 = .ok (.iconst 1, 1) := by decide +kernel
theorem dX6_leastWrong_19 : decode cX6_leastWrong 19 = .ok (.iaload, 1) := by decide +kernel
theorem dX6_leastWrong_20 : decode cX6_leastWrong 20 = .ok (.if_icmp .gt 53, 3) := by decide +kernel
theorem dX6_leastWrong_23 : decode cX6_leastWrong 23 = .ok (.iload_n 3, 1) := by decide +kernel
theorem dX6_leastWrong_24 : decode cX6_leastWrong 24 = .ok (.bipush (-9), 2) := by decide +kernel
theorem dX6_leastWrong_26 : decode cX6_leastWrong 26 = .ok (.if_icmp .ne 47, 3) := by decide +kernel
theorem dX6_leastWrong_29 : decode cX6_leastWrong 29 = .ok (.aload_n 0, 1) := by decide +kernel
theorem dX6_leastWrong_30 : decode cX6_leastWrong 30 = .ok (.getfield 21, 3) := by decide +kernel
theorem dX6_leastWrong_33 : decode cX6_leastWrong 33 = .ok (.iconst 1, 1) := by decide +kernel
theorem dX6_leastWrong_34 : decode cX6_leastWrong 34 = .ok (.iload 4, 2) := by decide +kernel
theorem dX6_leastWrong_36 : decode cX6_leastWrong 36 = .ok (.iastore, 1) := by decide +kernel
theorem dX6_leastWrong_37 : decode cX6_leastWrong 37 = .ok (.aload_n 0, 1) := by decide +kernel
theorem dX6_leastWrong_38 : decode cX6_leastWrong 38 = .ok (.invokevirtual 145, 3) := by decide +kernel
theorem dX6_leastWrong_41 : decode cX6_leastWrong 41 = .ok (.aload_n 0, 1) := by decide +kernel
theorem dX6_leastWrong_42 : decode cX6_leastWrong 42 = .ok (.invokevirtual 161, 3) := by decide +kernel
theorem dX6_leastWrong_45 : decode cX6_leastWrong 45 = .ok (.ldc2_w 165, 3) := by decide +kernel
theorem dX6_leastWrong_48 : decode cX6_leastWrong 48 = .ok (.lmul, 1) := by decide +kernel
theorem dX6_leastWrong_49 : decode cX6_leastWrong 49 = .ok (.iload_n 1, 1) := by decide +kernel
theorem dX6_leastWrong_50 : decode cX6_leastWrong 50 = .ok (.i2l, 1) := by decide +kernel
theorem dX6_leastWrong_51 : decode cX6_leastWrong 51 = .ok (.aload_n 0, 1) := by decide +kernel
theorem dX6_leastWrong_52 : decode cX6_leastWrong 52 = .ok (.getfield 67, 3) := by decide +kernel
theorem dX6_leastWrong_55 : decode cX6_leastWrong 55 = .ok (.iconst 0, 1) := by decide +kernel
theorem dX6_leastWrong_56 : decode cX6_leastWrong 56 = .ok (.invokevirtual 167, 3) := by decide +kernel
theorem dX6_leastWrong_59 : decode cX6_leastWrong 59 = .ok (.lmul, 1) := by decide +kernel
theorem dX6_leastWrong_60 : decode cX6_leastWrong 60 = .ok (.lcmp, 1) := by decide +kernel
theorem dX6_leastWrong_61 : decode cX6_leastWrong 61 = .ok (.ifCond .lt 6, 3) := by decide +kernel
theorem dX6_leastWrong_64 : decode cX6_leastWrong 64 = .ok (.iload 4, 2) := by decide +kernel
theorem dX6_leastWrong_66 : decode cX6_leastWrong 66 = .ok (.istore_n 3, 1) := by decide +kernel
theorem dX6_leastWrong_67 : decode cX6_leastWrong 67 = .ok (.iinc 4 1, 3) := by decide +kernel
theorem dX6_leastWrong_70 : decode cX6_leastWrong 70 = .ok (.goto (-57), 3) := by decide +kernel
theorem dX6_leastWrong_73 : decode cX6_leastWrong 73 = .ok (.aload_n 0, 1) := by decide +kernel
theorem dX6_leastWrong_74 : decode cX6_leastWrong 74 = .ok (.getfield 21, 3) := by decide +kernel
theorem dX6_leastWrong_77 : decode cX6_leastWrong 77 = .ok (.iconst 1, 1) := by decide +kernel
theorem dX6_leastWrong_78 : decode cX6_leastWrong 78 = .ok (.iload_n 2, 1) := by decide +kernel
theorem dX6_leastWrong_79 : decode cX6_leastWrong 79 = .ok (.iastore, 1) := by decide +kernel
theorem dX6_leastWrong_80 : decode cX6_leastWrong 80 = .ok (.iload_n 3, 1) := by decide +kernel
theorem dX6_leastWrong_81 : decode cX6_leastWrong 81 = .ok (.ireturn, 1) := by decide +kernel
set_option maxRecDepth 20000 in
theorem ggX6_bestEarly_X6_prepare : GoodIn wsX6_bestEarly wsX6_prepare := goodIn_r _ [7, 8, 9, 10, 11, 12, 13, 14, 15, 16, 17, 18, 19, 20, 21, 22, 23, 24, 6, 25, 26, 27, 28, 29, 30, 31, 32, 33, 34, 35, 36, 1, 37, 38, 39, 40, 41, 42, 43, 44, 45, 46, 47, 48, 49, 50, 51, 52, 53, 54, 55, 56, 57, 58, 59, 60, 61, 62, 63, 64, 65, 66, 67, 68, 69, 70, 71, 72, 73, 74, 75, 76, 77, 78, 79, 80, 81, 82, 83, 84, 85, 86, 87, 88, 89, 90, 91, 92, 93, 94, 95, 96, 97, 98, 99, 100, 101, 102, 103, 104, 105, 106, 107, 108, 109, 110, 111, 112, 113, 114, 115, 116, 171, 172, 173, 174, 175, 176, 177, 178, 179, 180, 181, 182, 183, 184, 185, 186, 187, 188, 189, 190, 191, 192, 193, 194, 195, 196, 197, 198, 199, 200, 201, 202, 203, 204, 205, 206, 207, 208, 209, 210, 211, 212, 213, 214, 215, 216, 217, 218, 219, 220, 221, 222, 223] (by decide +kernel) (by decide +kernel)
set_option maxRecDepth 20000 in
theorem gX6_bestEarly_X6_prepare : GoodIn wsX6_bestEarly (wsV RX6 145 RX6 yX6_prepare wsX6_prepare) := goodIn_app (goodIn_of _ (by decide +kernel)) ggX6_bestEarly_X6_prepare
set_option maxRecDepth 20000 in
theorem ggX6_bestEarly_X6_total : GoodIn wsX6_bestEarly wsX6_total := goodIn_r _ [120, 11, 121, 122, 123, 124, 18, 125, 103, 52, 38, 39, 40, 20, 126, 127, 128, 6, 129, 130, 131, 132, 133, 8, 134, 13, 14, 135, 136, 137, 138, 139, 140, 141, 142, 143, 9, 144, 145, 146, 147, 148, 12, 1, 149, 150, 151, 152, 47, 48, 49, 50, 51, 153, 154, 155, 156, 157, 158, 159, 160, 161, 162, 163, 164, 165, 166, 167, 168, 169, 170, 171, 172, 173, 174, 175, 176, 177, 178, 179, 180, 181, 182, 183, 184, 185, 186, 187, 208, 209, 210, 211, 212, 213, 214, 215, 216, 217, 218, 219, 220, 221, 222, 223, 188, 189, 190, 191, 192, 193, 194, 195, 196, 197, 198, 199, 200, 201, 202, 203, 204, 205, 206, 207] (by decide +kernel) (by decide +kernel)
set_option maxRecDepth 20000 in
theorem gX6_bestEarly_X6_total : GoodIn wsX6_bestEarly (wsV RX6 154 RX6 yX6_total wsX6_total) := goodIn_app (goodIn_of _ (by decide +kernel)) ggX6_bestEarly_X6_total
theorem dX6_bestEarly_0 : decode cX6_bestEarly 0 = .ok (.aload_n 0, 1) := by decide +kernel
theorem dX6_bestEarly_1 : decode cX6_bestEarly 1 = .ok (.getfield 21, 3) := by decide +kernel
theorem dX6_bestEarly_4 : decode cX6_bestEarly 4 = .ok (.iconst 2, 1) := by decide +kernel
theorem dX6_bestEarly_5 : decode cX6_bestEarly 5 = .ok (.iaload, 1) := by decide +kernel
theorem dX6_bestEarly_6 : decode cX6_bestEarly 6 = .ok (.istore_n 2, 1) := by decide +kernel
theorem dX6_bestEarly_7 : decode cX6_bestEarly 7 = .ok (.iconst 0, 1) := by decide +kernel
theorem dX6_bestEarly_8 : decode cX6_bestEarly 8 = .ok (.istore_n 3, 1) := by decide +kernel
theorem dX6_bestEarly_9 : decode cX6_bestEarly 9 = .ok (.ldc2_w 170, 3) := by decide +kernel
theorem dX6_bestEarly_12 : decode cX6_bestEarly 12 = .ok (.lstore 4, 2) := by decide +kernel
theorem dX6_bestEarly_14 : decode cX6_bestEarly 14 = .ok (.iconst 0, 1) := by decide +kernel
theorem dX6_bestEarly_15 : decode cX6_bestEarly 15 = .ok (.istore 6, 2) := by decide +kernel
theorem dX6_bestEarly_17 : decode cX6_bestEarly 17 = .ok (.iload 6, 2) := by decide +kernel
theorem dX6_bestEarly_19 : decode cX6_bestEarly 19 = .ok (.getstatic 158, 3) := by decide +kernel
