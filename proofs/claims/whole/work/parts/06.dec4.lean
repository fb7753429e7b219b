theorem dX12_reply_16 : decode cX12_reply 16 = .ok (.iconst 2, 1) := by decide +kernel
theorem dX12_reply_17 : decode cX12_reply 17 = .ok (.invokestatic 121, 3) := by decide +kernel
theorem dX12_reply_20 : decode cX12_reply 20 = .ok (.istore_n 3, 1) := by decide +kernel
theorem dX12_reply_21 : decode cX12_reply 21 = .ok (.iload_n 3, 1) := by decide +kernel
theorem dX12_reply_22 : decode cX12_reply 22 = .ok (.ifCond .ne 13, 3) := by decide +kernel
theorem dX12_reply_25 : decode cX12_reply 25 = .ok (.aload_n 0, 1) := by decide +kernel
theorem dX12_reply_26 : decode cX12_reply 26 = .ok (.invokevirtual 183, 3) := by decide +kernel
theorem dX12_reply_29 : decode cX12_reply 29 = .ok (.ifCond .ne 6, 3) := by decide +kernel
theorem dX12_reply_32 : decode cX12_reply 32 = .ok (.bipush (-3), 2) := by decide +kernel
theorem dX12_reply_34 : decode cX12_reply 34 = .ok (.istore_n 3, 1) := by decide +kernel
theorem dX12_reply_35 : decode cX12_reply 35 = .ok (.iload_n 3, 1) := by decide +kernel
theorem dX12_reply_36 : decode cX12_reply 36 = .ok (.ifCond .eq 9, 3) := by decide +kernel
theorem dX12_reply_39 : decode cX12_reply 39 = .ok (.aload_n 0, 1) := by decide +kernel
theorem dX12_reply_40 : decode cX12_reply 40 = .ok (.iload_n 3, 1) := by decide +kernel
theorem dX12_reply_41 : decode cX12_reply 41 = .ok (.invokevirtual 128, 3) := by decide +kernel
theorem dX12_reply_44 : decode cX12_reply 44 = .ok (.ireturn, 1) := by decide +kernel
theorem dX12_reply_45 : decode cX12_reply 45 = .ok (.aload_n 0, 1) := by decide +kernel
theorem dX12_reply_46 : decode cX12_reply 46 = .ok (.invokevirtual 247, 3) := by decide +kernel
theorem dX12_reply_49 : decode cX12_reply 49 = .ok (.aload_n 0, 1) := by decide +kernel
theorem dX12_reply_50 : decode cX12_reply 50 = .ok (.iload_n 1, 1) := by decide +kernel
theorem dX12_reply_51 : decode cX12_reply 51 = .ok (.iload_n 2, 1) := by decide +kernel
theorem dX12_reply_52 : decode cX12_reply 52 = .ok (.invokevirtual 291, 3) := by decide +kernel
theorem dX12_reply_55 : decode cX12_reply 55 = .ok (.ireturn, 1) := by decide +kernel
set_option maxRecDepth 20000 in
theorem ggX12_takesReply_X12_finds : GoodIn wsX12_takesReply wsX12_finds := goodIn_r _ [6, 7, 8, 9, 5, 10, 11, 12, 13, 14, 15, 16, 17, 18, 19, 20, 21, 22, 23, 24, 25, 26, 27, 28, 29, 30, 31, 32, 33, 34, 35, 36, 37, 38, 39, 40, 41, 42, 43, 44, 45, 46, 47, 48, 49, 50, 51, 52, 53, 54, 55, 56, 57, 58, 59, 60, 61, 62, 63, 64, 65, 66, 67, 68, 69, 70, 71, 1, 72, 73, 74, 75, 76, 111, 112, 113, 114, 115, 116, 117, 118, 119, 120, 121, 122, 123, 124, 125, 126, 127, 128, 129, 130, 131, 132, 133, 134, 135, 136, 137, 138, 139, 140, 141, 142, 143, 144, 145, 146, 147, 148, 149, 150, 151, 152, 153, 154, 155, 156, 157, 158, 159, 160, 161, 162] (by decide +kernel) (by decide +kernel)
set_option maxRecDepth 20000 in
theorem gX12_takesReply_X12_finds : GoodIn wsX12_takesReply (wsV RX12 247 RX12 yX12_finds wsX12_finds) := goodIn_app (goodIn_of _ (by decide +kernel)) ggX12_takesReply_X12_finds
set_option maxRecDepth 20000 in
theorem ggX12_takesReply_X12_replyOf : GoodIn wsX12_takesReply wsX12_replyOf := goodIn_r _ [80, 81, 12, 82, 83, 84, 5, 85, 34, 37, 39, 86, 87, 88, 89, 90, 13, 91, 14, 92, 93, 94, 95, 96, 97, 98, 99, 100, 101, 55, 15, 102, 103, 104, 105, 33, 106, 107, 108, 109, 110, 54, 111, 112, 113, 114, 115, 116, 117, 118, 119, 120, 121, 122, 123, 124, 125, 126, 127, 128, 129, 130, 131, 132, 133, 134, 135, 136, 137, 138, 139, 140, 141, 142, 143, 144, 145, 146, 147, 148, 149, 150, 151, 152, 153, 154, 155, 156, 157, 158, 159, 160, 161, 162] (by decide +kernel) (by decide +kernel)
set_option maxRecDepth 20000 in
theorem gX12_takesReply_X12_replyOf : GoodIn wsX12_takesReply (wsV RX12 291 RX12 yX12_replyOf wsX12_replyOf) := goodIn_app (goodIn_of _ (by decide +kernel)) ggX12_takesReply_X12_replyOf
theorem dX12_takesReply_0 : decode cX12_takesReply 0 = .ok (.aload_n 0, 1) := by decide +kernel
theorem dX12_takesReply_1 : decode cX12_takesReply 1 = .ok (.invokevirtual 247, 3) := by decide +kernel
theorem dX12_takesReply_4 : decode cX12_takesReply 4 = .ok (.aload_n 0, 1) := by decide +kernel
theorem dX12_takesReply_5 : decode cX12_takesReply 5 = .ok (.iload_n 1, 1) := by decide +kernel
theorem dX12_takesReply_6 : decode cX12_takesReply 6 = .ok (.iconst 2, 1) := by decide +kernel
theorem dX12_takesReply_7 : decode cX12_takesReply 7 = .ok (.invokevirtual 291, 3) := by decide +kernel
theorem dX12_takesReply_10 : decode cX12_takesReply 10 = .ok (.istore_n 2, 1) := by decide +kernel
theorem dX12_takesReply_11 : decode cX12_takesReply 11 = .ok (.iload_n 2, 1) := by decide +kernel
theorem dX12_takesReply_12 : decode cX12_takesReply 12 = .ok (.aload_n 0, 1) := by decide +kernel
theorem dX12_takesReply_13 : decode cX12_takesReply 13 = .ok (.getfield 37, 3) := by decide +kernel
theorem dX12_takesReply_16 : decode cX12_takesReply 16 = .ok (.iload_n 1, 1) := by decide +kernel
theorem dX12_takesReply_17 : decode cX12_takesReply 17 = .ok (.iaload, 1) := by decide +kernel
theorem dX12_takesReply_18 : decode cX12_takesReply 18 = .ok (.if_icmp .eq 7, 3) := by decide +kernel
theorem dX12_takesReply_21 : decode cX12_takesReply 21 = .ok (.iconst 1, 1) := by decide +kernel
theorem dX12_takesReply_22 : decode cX12_takesReply 22 = .ok (.goto 4, 3) := by decide +kernel
theorem dX12_takesReply_25 : decode cX12_takesReply 25 = .ok (.iconst 0, 1) := by decide +kernel
theorem dX12_takesReply_26 : decode cX12_takesReply 26 = .ok (.istore_n 3, 1) := by decide +kernel
theorem dX12_takesReply_27 : decode cX12_takesReply 27 = .ok (.aload_n 0, 1) := by decide +kernel
theorem dX12_takesReply_28 : decode cX12_takesReply 28 = .ok (.getfield 37, 3) := by decide +kernel
theorem dX12_takesReply_31 : decode cX12_takesReply 31 = .ok (.iload_n 1, 1) := by decide +kernel
theorem dX12_takesReply_32 : decode cX12_takesReply 32 = .ok (.iload_n 2, 1) := by decide +kernel
theorem dX12_takesReply_33 : decode cX12_takesReply 33 = .ok (.iastore, 1) := by decide +kernel
theorem dX12_takesReply_34 : decode cX12_takesReply 34 = .ok (.iload_n 3, 1) := by decide +kernel
theorem dX12_takesReply_35 : decode cX12_takesReply 35 = .ok (.ireturn, 1) := by decide +kernel
set_option maxRecDepth 20000 in
theorem ggX12_rest_X12_isPlayer : GoodIn wsX12_rest wsX12_isPlayer := goodIn_r _ [6, 7, 132, 133, 134, 135, 136, 137, 138, 139, 140, 141, 142, 143, 144, 145, 146, 147, 148, 149, 150, 151, 152, 153, 154, 155, 156, 157, 158, 159, 160, 161, 162, 163, 164, 165, 166, 167, 168, 169, 170, 171, 172, 173, 174, 175, 176, 177, 178, 179, 180, 181, 182, 183] (by decide +kernel) (by decide +kernel)
set_option maxRecDepth 20000 in
theorem gX12_rest_X12_isPlayer : GoodIn wsX12_rest (wsV RX12 180 RX12 yX12_isPlayer wsX12_isPlayer) := goodIn_app (goodIn_of _ (by decide +kernel)) ggX12_rest_X12_isPlayer
set_option maxRecDepth 20000 in
theorem ggX12_rest_X12_no : GoodIn wsX12_rest wsX12_no := goodIn_r _ [11, 12, 132, 133, 134, 135, 136, 137, 138, 139, 140, 141, 142, 143, 144, 145, 146, 147, 148, 149, 150, 151, 152, 153, 154, 155, 156, 157, 158, 159, 160, 161, 162, 163, 164, 165, 166, 167, 168, 169, 170, 171, 172, 173, 174, 175, 176, 177, 178, 179, 180, 181, 182, 183] (by decide +kernel) (by decide +kernel)
set_option maxRecDepth 20000 in
theorem gX12_rest_X12_no : GoodIn wsX12_rest (wsV RX12 128 RX12 yX12_no wsX12_no) := goodIn_app (goodIn_of _ (by decide +kernel)) ggX12_rest_X12_no
set_option maxRecDepth 20000 in
theorem ggX12_rest_X12_isWhole : GoodIn wsX12_rest wsX12_isWhole := goodIn_r _ [16, 17, 18, 19, 20, 21, 5, 22, 23, 132, 133, 134, 135, 136, 137, 138, 139, 140, 141, 142, 143, 144, 145, 146, 147, 148, 149, 150, 151, 152, 153, 154, 155, 156, 157, 158, 159, 160, 161, 162, 163, 164, 165, 166, 167, 168, 169, 170, 171, 172, 173, 174, 175, 176, 177, 178, 179, 180, 181, 182, 183] (by decide +kernel) (by decide +kernel)
set_option maxRecDepth 20000 in
theorem gX12_rest_X12_isWhole : GoodIn wsX12_rest (wsV RX12 183 RX12 yX12_isWhole wsX12_isWhole) := goodIn_app (goodIn_of _ (by decide +kernel)) ggX12_rest_X12_isWhole
set_option maxRecDepth 20000 in
theorem ggX12_rest_X12_takesReply : GoodIn wsX12_rest wsX12_takesReply := goodIn_r _ [27, 28, 29, 30, 31, 5, 32, 33, 34, 35, 36, 37, 17, 18, 38, 23, 39, 40, 41, 42, 43, 44, 45, 46, 47, 48, 49, 50, 51, 52, 53, 54, 55, 7, 56, 57, 1, 58, 59, 60, 61, 62, 63, 64, 65, 66, 67, 68, 69, 70, 71, 72, 73, 74, 75, 76, 77, 78, 79, 80, 81, 82, 83, 84, 85, 86, 87, 88, 89, 90, 91, 92, 93, 94, 95, 96, 97, 98, 99, 100, 101, 102, 103, 104, 105, 106, 107, 108, 109, 110, 111, 112, 113, 114, 115, 116, 117, 118, 119, 120, 121, 122, 123, 124, 125, 126, 127, 128, 129, 130, 131, 132, 133, 134, 135, 136, 137, 138, 139, 140, 141, 142, 143, 144, 145, 146, 147, 148, 149, 150, 151, 152, 153, 154, 155, 156, 157, 158, 159, 160, 161, 162, 163, 164, 165, 166, 167, 168, 169, 170, 171, 172, 173, 174, 175, 176, 177, 178, 179, 180, 181, 182, 183] (by decide +kernel) (by decide +kernel)
set_option maxRecDepth 20000 in
theorem gX12_rest_X12_takesReply : GoodIn wsX12_rest (wsV RX12 294 RX12 yX12_takesReply wsX12_takesReply) := goodIn_app (goodIn_of _ (by decide +kernel)) ggX12_rest_X12_takesReply
theorem dX12_rest_0 : decode cX12_rest 0 = .ok (.aload_n 0, 1) := by decide +kernel
theorem dX12_rest_1 : decode cX12_rest 1 = .ok (.iload_n 1, 1) := by decide +kernel
theorem dX12_rest_2 : decode cX12_rest 2 = .ok (.invokevirtual 180, 3) := by decide +kernel
theorem dX12_rest_5 : decode cX12_rest 5 = .ok (.ifCond .eq 16, 3) := by decide +kernel
theorem dX12_rest_8 : decode cX12_rest 8 = .ok (.aload_n 0, 1) := by decide +kernel
theorem dX12_rest_9 : decode cX12_rest 9 = .ok (.iload_n 2, 1) := by decide +kernel
theorem dX12_rest_10 : decode cX12_rest 10 = .ok (.invokevirtual 180, 3) := by decide +kernel
theorem dX12_rest_13 : decode cX12_rest 13 = .ok (.ifCond .eq 8, 3) := by decide +kernel
theorem dX12_rest_16 : decode cX12_rest 16 = .ok (.iload_n 1, 1) := by decide +kernel
theorem dX12_rest_17 : decode cX12_rest 17 = .ok (.iload_n 2, 1) := by decide +kernel
theorem dX12_rest_18 : decode cX12_rest 18 = .ok (.if_icmp .ne 9, 3) := by decide +kernel
theorem dX12_rest_21 : decode cX12_rest 21 = .ok (.aload_n 0, 1) := by decide +kernel
theorem dX12_rest_22 : decode cX12_rest 22 = .ok (.iconst (-1), 1) := by decide +kernel
theorem dX12_rest_23 : decode cX12_rest 23 = .ok (.invokevirtual 128, 3) := by decide +kernel
theorem dX12_rest_26 : decode cX12_rest 26 = .ok (.ireturn, 1) := by decide +kernel
theorem dX12_rest_27 : decode cX12_rest 27 = .ok (.aload_n 0, 1) := by decide +kernel
theorem dX12_rest_28 : decode cX12_rest 28 = .ok (.getfield 25, 3) := by decide +kernel
theorem dX12_rest_31 : decode cX12_rest 31 = .ok (.iload_n 1, 1) := by decide +kernel
theorem dX12_rest_32 : decode cX12_rest 32 = .ok (.iaload, 1) := by decide +kernel
theorem dX12_rest_33 : decode cX12_rest 33 = .ok (.iconst 4, 1) := by decide +kernel
theorem dX12_rest_34 : decode cX12_rest 34 = .ok (.if_icmp .ne 13, 3) := by decide +kernel
theorem dX12_rest_37 : decode cX12_rest 37 = .ok (.aload_n 0, 1) := by decide +kernel
theorem dX12_rest_38 : decode cX12_rest 38 = .ok (.getfield 25, 3) := by decide +kernel
theorem dX12_rest_41 : decode cX12_rest 41 = .ok (.iload_n 2, 1) := by decide +kernel
theorem dX12_rest_42 : decode cX12_rest 42 = .ok (.iaload, 1) := by decide +kernel
theorem dX12_rest_43 : decode cX12_rest 43 = .ok (.iconst 4, 1) := by decide +kernel
theorem dX12_rest_44 : decode cX12_rest 44 = .ok (.if_icmp .eq 10, 3) := by decide +kernel
theorem dX12_rest_47 : decode cX12_rest 47 = .ok (.aload_n 0, 1) := by decide +kernel
theorem dX12_rest_48 : decode cX12_rest 48 = .ok (.bipush (-2), 2) := by decide +kernel
theorem dX12_rest_50 : decode cX12_rest 50 = .ok (.invokevirtual 128, 3) := by decide +kernel
theorem dX12_rest_53 : decode cX12_rest 53 = .ok (.ireturn, 1) := by decide +kernel
theorem dX12_rest_54 : decode cX12_rest 54 = .ok (.aload_n 0, 1) := by decide +kernel
theorem dX12_rest_55 : decode cX12_rest 55 = .ok (.invokevirtual 183, 3) := by decide +kernel
theorem dX12_rest_58 : decode cX12_rest 58 = .ok (.ifCond .ne 10, 3) := by decide +kernel
theorem dX12_rest_61 : decode cX12_rest 61 = .ok (.aload_n 0, 1) := by decide +kernel
theorem dX12_rest_62 : decode cX12_rest 62 = .ok (.bipush (-3), 2) := by decide +kernel
theorem dX12_rest_64 : decode cX12_rest 64 = .ok (.invokevirtual 128, 3) := by decide +kernel
theorem dX12_rest_67 : decode cX12_rest 67 = .ok (.ireturn, 1) := by decide +kernel
theorem dX12_rest_68 : decode cX12_rest 68 = .ok (.iconst 1, 1) := by decide +kernel
theorem dX12_rest_69 : decode cX12_rest 69 = .ok (.istore_n 3, 1) := by decide +kernel
theorem dX12_rest_70 : decode cX12_rest 70 = .ok (.iload_n 3, 1) := by decide +kernel
theorem dX12_rest_71 : decode cX12_rest 71 = .ok (.bipush 10, 2) := by decide +kernel
theorem dX12_rest_73 : decode cX12_rest 73 = .ok (.if_icmp .gt 35, 3) := by decide +kernel
theorem dX12_rest_76 : decode cX12_rest 76 = .ok (.aload_n 0, 1) := by decide +kernel
theorem dX12_rest_77 : decode cX12_rest 77 = .ok (.iload_n 1, 1) := by decide +kernel
theorem dX12_rest_78 : decode cX12_rest 78 = .ok (.invokevirtual 294, 3) := by decide +kernel
theorem dX12_rest_81 : decode cX12_rest 81 = .ok (.istore 4, 2) := by decide +kernel
theorem dX12_rest_83 : decode cX12_rest 83 = .ok (.aload_n 0, 1) := by decide +kernel
theorem dX12_rest_84 : decode cX12_rest 84 = .ok (.iload_n 2, 1) := by decide +kernel
theorem dX12_rest_85 : decode cX12_rest 85 = .ok (.invokevirtual 294, 3) := by decide +kernel
theorem dX12_rest_88 : decode cX12_rest 88 = .ok (.istore 5, 2) := by decide +kernel
theorem dX12_rest_90 : decode cX12_rest 90 = .ok (.iload 4, 2) := by decide +kernel
theorem dX12_rest_92 : decode cX12_rest 92 = .ok (.ifCond .ne 10, 3) := by decide +kernel
theorem dX12_rest_95 : decode cX12_rest 95 = .ok (.iload 5, 2) := by decide +kernel
theorem dX12_rest_97 : decode cX12_rest 97 = .ok (.ifCond .ne 5, 3) := by decide +kernel
theorem dX12_rest_100 : decode cX12_rest 100 = .ok (.iload_n 3, 1) := by decide +kernel
theorem dX12_rest_101 : decode cX12_rest 101 = .ok (.ireturn, 1) := by decide +kernel
theorem dX12_rest_102 : decode cX12_rest 102 = .ok (.iinc 3 1, 3) := by decide +kernel
theorem dX12_rest_105 : decode cX12_rest 105 = .ok (.goto (-35), 3) := by decide +kernel
theorem dX12_rest_108 : decode cX12_rest 108 = .ok (.bipush (-9), 2) := by decide +kernel
theorem dX12_rest_110 : decode cX12_rest 110 = .ok (.ireturn, 1) := by decide +kernel
set_option maxRecDepth 20000 in
theorem ggX12_law_X12_bound : GoodIn wsX12_law wsX12_bound := goodIn_r _ [7] (by decide +kernel) (by decide +kernel)
set_option maxRecDepth 20000 in
theorem gX12_law_X12_bound : GoodIn wsX12_law (va_wsS RX12 121 yX12_bound wsX12_bound) := goodIn_app (goodIn_of _ (by decide +kernel)) ggX12_law_X12_bound
set_option maxRecDepth 20000 in
theorem ggX12_law_X12_isWhole : GoodIn wsX12_law wsX12_isWhole := goodIn_r _ [11, 12, 13, 14, 15, 16, 6, 17, 18, 117, 118, 119, 120, 121, 122, 123, 124, 125, 126, 127, 128, 129, 130, 131, 132, 133, 134, 135, 136, 137, 138, 139, 140, 141, 142, 143, 144, 145, 146, 147, 148, 149, 150, 151, 152, 153, 154, 155, 156, 157, 158, 159, 160, 161, 162, 163, 164, 165, 166, 167, 168] (by decide +kernel) (by decide +kernel)
set_option maxRecDepth 20000 in
theorem gX12_law_X12_isWhole : GoodIn wsX12_law (wsV RX12 183 RX12 yX12_isWhole wsX12_isWhole) := goodIn_app (goodIn_of _ (by decide +kernel)) ggX12_law_X12_isWhole
set_option maxRecDepth 20000 in
theorem ggX12_law_X12_no : GoodIn wsX12_law wsX12_no := goodIn_r _ [22, 23, 117, 118, 119, 120, 121, 122, 123, 124, 125, 126, 127, 128, 129, 130, 131, 132, 133, 134, 135, 136, 137, 138, 139, 140, 141, 142, 143, 144, 145, 146, 147, 148, 149, 150, 151, 152, 153, 154, 155, 156, 157, 158, 159, 160, 161, 162, 163, 164, 165, 166, 167, 168] (by decide +kernel) (by decide +kernel)
set_option maxRecDepth 20000 in
theorem gX12_law_X12_no : GoodIn wsX12_law (wsV RX12 128 RX12 yX12_no wsX12_no) := goodIn_app (goodIn_of _ (by decide +kernel)) ggX12_law_X12_no
set_option maxRecDepth 20000 in
theorem ggX12_law_X12_finds : GoodIn wsX12_law wsX12_finds := goodIn_r _ [27, 28, 29, 30, 6, 31, 3, 12, 13, 32, 18, 33, 34, 35, 36, 37, 38, 39, 40, 41, 42, 43, 44, 45, 46, 47, 48, 49, 50, 51, 52, 53, 54, 55, 56, 57, 58, 59, 60, 61, 62, 63, 64, 65, 66, 67, 68, 69, 70, 1, 71, 72, 73, 74, 75, 76, 77, 78, 79, 80, 81, 82, 83, 84, 85, 86, 87, 88, 89, 90, 91, 92, 2, 117, 118, 119, 120, 121, 122, 123, 124, 125, 126, 127, 128, 129, 130, 131, 132, 133, 134, 135, 136, 137, 138, 139, 140, 141, 142, 143, 144, 145, 146, 147, 148, 149, 150, 151, 152, 153, 154, 155, 156, 157, 158, 159, 160, 161, 162, 163, 164, 165, 166, 167, 168] (by decide +kernel) (by decide +kernel)
set_option maxRecDepth 20000 in
theorem gX12_law_X12_finds : GoodIn wsX12_law (wsV RX12 247 RX12 yX12_finds wsX12_finds) := goodIn_app (goodIn_of _ (by decide +kernel)) ggX12_law_X12_finds
set_option maxRecDepth 20000 in
theorem ggX12_law_X12_sumOver : GoodIn wsX12_law wsX12_sumOver := goodIn_r _ [96, 12, 13, 97, 32, 98, 99, 100, 101, 102, 6, 103, 104, 105, 106, 107, 71, 18, 108, 109, 110, 111, 50, 56, 54, 112, 113, 114, 115, 116, 51, 1, 117, 118, 119, 120, 121, 122, 123, 124, 125, 126, 127, 128, 129, 130, 131, 132, 133, 134, 135, 136, 137, 138, 139, 140, 141, 142, 143, 144, 145, 146, 147, 148, 149, 150, 151, 152, 153, 154, 155, 156, 157, 158, 159, 160, 161, 162, 163, 164, 165, 166, 167, 168] (by decide +kernel) (by decide +kernel)
set_option maxRecDepth 20000 in
theorem gX12_law_X12_sumOver : GoodIn wsX12_law (wsV RX12 274 RX12 yX12_sumOver wsX12_sumOver) := goodIn_app (goodIn_of _ (by decide +kernel)) ggX12_law_X12_sumOver
theorem dX12_law_0 : decode cX12_law 0 = .ok (.iload_n 1, 1) := by decide +kernel
theorem dX12_law_1 : decode cX12_law 1 = .ok (.iconst 0, 1) := by decide +kernel
theorem dX12_law_2 : decode cX12_law 2 = .ok (.bipush 100, 2) := by decide +kernel
theorem dX12_law_4 : decode cX12_law 4 = .ok (.invokestatic 121, 3) := by decide +kernel
theorem dX12_law_7 : decode cX12_law 7 = .ok (.istore_n 2, 1) := by decide +kernel
theorem dX12_law_8 : decode cX12_law 8 = .ok (.iload_n 2, 1) := by decide +kernel
theorem dX12_law_9 : decode cX12_law 9 = .ok (.ifCond .ne 13, 3) := by decide +kernel
theorem dX12_law_12 : decode cX12_law 12 = .ok (.aload_n 0, 1) := by decide +kernel
theorem dX12_law_13 : decode cX12_law 13 = .ok (.invokevirtual 183, 3) := by decide +kernel
theorem dX12_law_16 : decode cX12_law 16 = .ok (.ifCond .ne 6, 3) := by decide +kernel
theorem dX12_law_19 : decode cX12_law 19 = .ok (.bipush (-3), 2) := by decide +kernel
theorem dX12_law_21 : decode cX12_law 21 = .ok (.istore_n 2, 1) := by decide +kernel
theorem dX12_law_22 : decode cX12_law 22 = .ok (.iload_n 2, 1) := by decide +kernel
theorem dX12_law_23 : decode cX12_law 23 = .ok (.ifCond .eq 9, 3) := by decide +kernel
theorem dX12_law_26 : decode cX12_law 26 = .ok (.aload_n 0, 1) := by decide +kernel
theorem dX12_law_27 : decode cX12_law 27 = .ok (.iload_n 2, 1) := by decide +kernel
theorem dX12_law_28 : decode cX12_law 28 = .ok (.invokevirtual 128, 3) := by decide +kernel
theorem dX12_law_31 : decode cX12_law 31 = .ok (.ireturn, 1) := by decide +kernel
theorem dX12_law_32 : decode cX12_law 32 = .ok (.aload_n 0, 1) := by decide +kernel
theorem dX12_law_33 : decode cX12_law 33 = .ok (.getfield 40, 3) := by decide +kernel
theorem dX12_law_36 : decode cX12_law 36 = .ok (.iconst 1, 1) := by decide +kernel
theorem dX12_law_37 : decode cX12_law 37 = .ok (.iaload, 1) := by decide +kernel
theorem dX12_law_38 : decode cX12_law 38 = .ok (.istore_n 3, 1) := by decide +kernel
theorem dX12_law_39 : decode cX12_law 39 = .ok (.bipush (-9), 2) := by decide +kernel
theorem dX12_law_41 : decode cX12_law 41 = .ok (.istore 4, 2) := by decide +kernel
theorem dX12_law_43 : decode cX12_law 43 = .ok (.iconst 0, 1) := by decide +kernel
theorem dX12_law_44 : decode cX12_law 44 = .ok (.istore 5, 2) := by decide +kernel
theorem dX12_law_46 : decode cX12_law 46 = .ok (.iload 5, 2) := by decide +kernel
theorem dX12_law_48 : decode cX12_law 48 = .ok (.bipush 20, 2) := by decide +kernel
theorem dX12_law_50 : decode cX12_law 50 = .ok (.if_icmp .gt 51, 3) := by decide +kernel
theorem dX12_law_53 : decode cX12_law 53 = .ok (.iload 4, 2) := by decide +kernel
theorem dX12_law_55 : decode cX12_law 55 = .ok (.ifCond .ge 46, 3) := by decide +kernel
theorem dX12_law_58 : decode cX12_law 58 = .ok (.aload_n 0, 1) := by decide +kernel
theorem dX12_law_59 : decode cX12_law 59 = .ok (.getfield 40, 3) := by decide +kernel
theorem dX12_law_62 : decode cX12_law 62 = .ok (.iconst 1, 1) := by decide +kernel
theorem dX12_law_63 : decode cX12_law 63 = .ok (.iload 5, 2) := by decide +kernel
theorem dX12_law_65 : decode cX12_law 65 = .ok (.iastore, 1) := by decide +kernel
theorem dX12_law_66 : decode cX12_law 66 = .ok (.aload_n 0, 1) := by decide +kernel
theorem dX12_law_67 : decode cX12_law 67 = .ok (.invokevirtual 247, 3) := by decide +kernel
theorem dX12_law_70 : decode cX12_law 70 = .ok (.ldc2_w 204, 3) := by decide +kernel
theorem dX12_law_73 : decode cX12_law 73 = .ok (.aload_n 0, 1) := by decide +kernel
theorem dX12_law_74 : decode cX12_law 74 = .ok (.iconst 3, 1) := by decide +kernel
theorem dX12_law_75 : decode cX12_law 75 = .ok (.iconst 0, 1) := by decide +kernel
theorem dX12_law_76 : decode cX12_law 76 = .ok (.invokevirtual 274, 3) := by decide +kernel
theorem dX12_law_79 : decode cX12_law 79 = .ok (.lmul, 1) := by decide +kernel
theorem dX12_law_80 : decode cX12_law 80 = .ok (.iload_n 1, 1) := by decide +kernel
theorem dX12_law_81 : decode cX12_law 81 = .ok (.i2l, 1) := by decide +kernel
theorem dX12_law_82 : decode cX12_law 82 = .ok (.aload_n 0, 1) := by decide +kernel
theorem dX12_law_83 : decode cX12_law 83 = .ok (.getfield 194, 3) := by decide +kernel
theorem dX12_law_86 : decode cX12_law 86 = .ok (.lmul, 1) := by decide +kernel
theorem dX12_law_87 : decode cX12_law 87 = .ok (.lcmp, 1) := by decide +kernel
theorem dX12_law_88 : decode cX12_law 88 = .ok (.ifCond .lt 7, 3) := by decide +kernel
theorem dX12_law_91 : decode cX12_law 91 = .ok (.iload 5, 2) := by decide +kernel
theorem dX12_law_93 : decode cX12_law 93 = .ok (.istore 4, 2) := by decide +kernel
theorem dX12_law_95 : decode cX12_law 95 = .ok (.iinc 5 1, 3) := by decide +kernel
theorem dX12_law_98 : decode cX12_law 98 = .ok (.goto (-52), 3) := by decide +kernel
theorem dX12_law_101 : decode cX12_law 101 = .ok (.aload_n 0, 1) := by decide +kernel
theorem dX12_law_102 : decode cX12_law 102 = .ok (.getfield 40, 3) := by decide +kernel
theorem dX12_law_105 : decode cX12_law 105 = .ok (.iconst 1, 1) := by decide +kernel
theorem dX12_law_106 : decode cX12_law 106 = .ok (.iload_n 3, 1) := by decide +kernel
theorem dX12_law_107 : decode cX12_law 107 = .ok (.iastore, 1) := by decide +kernel
theorem dX12_law_108 : decode cX12_law 108 = .ok (.iload 4, 2) := by decide +kernel
theorem dX12_law_110 : decode cX12_law 110 = .ok (.ireturn, 1) := by decide +kernel
set_option maxRecDepth 20000 in
theorem ggX12_mostEarly_X12_isPlayer : GoodIn wsX12_mostEarly wsX12_isPlayer := goodIn_r _ [7, 8, 119, 120, 121, 122, 123, 124, 125, 126, 127, 128, 129, 130, 131, 132, 133, 134, 135, 136, 137, 138, 139, 140, 141, 142, 143, 144, 145, 146, 147, 148, 149, 150, 151, 152, 153, 154, 155, 156, 157, 158, 159, 160, 161, 162, 163, 164, 165, 166, 167, 168, 169, 170] (by decide +kernel) (by decide +kernel)
set_option maxRecDepth 20000 in
theorem gX12_mostEarly_X12_isPlayer : GoodIn wsX12_mostEarly (wsV RX12 180 RX12 yX12_isPlayer wsX12_isPlayer) := goodIn_app (goodIn_of _ (by decide +kernel)) ggX12_mostEarly_X12_isPlayer
set_option maxRecDepth 20000 in
theorem ggX12_mostEarly_X12_no : GoodIn wsX12_mostEarly wsX12_no := goodIn_r _ [12, 13, 119, 120, 121, 122, 123, 124, 125, 126, 127, 128, 129, 130, 131, 132, 133, 134, 135, 136, 137, 138, 139, 140, 141, 142, 143, 144, 145, 146, 147, 148, 149, 150, 151, 152, 153, 154, 155, 156, 157, 158, 159, 160, 161, 162, 163, 164, 165, 166, 167, 168, 169, 170] (by decide +kernel) (by decide +kernel)
set_option maxRecDepth 20000 in
theorem gX12_mostEarly_X12_no : GoodIn wsX12_mostEarly (wsV RX12 128 RX12 yX12_no wsX12_no) := goodIn_app (goodIn_of _ (by decide +kernel)) ggX12_mostEarly_X12_no
set_option maxRecDepth 20000 in
theorem ggX12_mostEarly_X12_isWhole : GoodIn wsX12_mostEarly wsX12_isWhole := goodIn_r _ [17, 18, 19, 20, 21, 22, 6, 23, 24, 119, 120, 121, 122, 123, 124, 125, 126, 127, 128, 129, 130, 131, 132, 133, 134, 135, 136, 137, 138, 139, 140, 141, 142, 143, 144, 145, 146, 147, 148, 149, 150, 151, 152, 153, 154, 155, 156, 157, 158, 159, 160, 161, 162, 163, 164, 165, 166, 167, 168, 169, 170] (by decide +kernel) (by decide +kernel)
set_option maxRecDepth 20000 in
theorem gX12_mostEarly_X12_isWhole : GoodIn wsX12_mostEarly (wsV RX12 183 RX12 yX12_isWhole wsX12_isWhole) := goodIn_app (goodIn_of _ (by decide +kernel)) ggX12_mostEarly_X12_isWhole
set_option maxRecDepth 20000 in
theorem ggX12_mostEarly_X12_finds : GoodIn wsX12_mostEarly wsX12_finds := goodIn_r _ [28, 29, 30, 31, 6, 32, 33, 18, 19, 34, 24, 35, 36, 37, 38, 39, 40, 41, 42, 43, 44, 45, 46, 47, 48, 49, 50, 51, 8, 52, 53, 54, 55, 56, 57, 58, 59, 60, 61, 62, 63, 64, 65, 66, 67, 68, 69, 70, 71, 1, 72, 73, 74, 75, 76, 77, 78, 79, 80, 81, 82, 83, 84, 85, 86, 87, 88, 89, 90, 91, 92, 93, 94, 119, 120, 121, 122, 123, 124, 125, 126, 127, 128, 129, 130, 131, 132, 133, 134, 135, 136, 137, 138, 139, 140, 141, 142, 143, 144, 145, 146, 147, 148, 149, 150, 151, 152, 153, 154, 155, 156, 157, 158, 159, 160, 161, 162, 163, 164, 165, 166, 167, 168, 169, 170] (by decide +kernel) (by decide +kernel)
set_option maxRecDepth 20000 in
theorem gX12_mostEarly_X12_finds : GoodIn wsX12_mostEarly (wsV RX12 247 RX12 yX12_finds wsX12_finds) := goodIn_app (goodIn_of _ (by decide +kernel)) ggX12_mostEarly_X12_finds
set_option maxRecDepth 20000 in
theorem ggX12_mostEarly_X12_sumOver : GoodIn wsX12_mostEarly wsX12_sumOver := goodIn_r _ [98, 18, 19, 99, 34, 100, 101, 102, 103, 104, 6, 105, 106, 107, 108, 109, 72, 24, 110, 111, 112, 113, 8, 57, 55, 114, 115, 116, 117, 118, 52, 1, 119, 120, 121, 122, 123, 124, 125, 126, 127, 128, 129, 130, 131, 132, 133, 134, 135, 136, 137, 138, 139, 140, 141, 142, 143, 144, 145, 146, 147, 148, 149, 150, 151, 152, 153, 154, 155, 156, 157, 158, 159, 160, 161, 162, 163, 164, 165, 166, 167, 168, 169, 170] (by decide +kernel) (by decide +kernel)
set_option maxRecDepth 20000 in
theorem gX12_mostEarly_X12_sumOver : GoodIn wsX12_mostEarly (wsV RX12 274 RX12 yX12_sumOver wsX12_sumOver) := goodIn_app (goodIn_of _ (by decide +kernel)) ggX12_mostEarly_X12_sumOver
theorem dX12_mostEarly_0 : decode cX12_mostEarly 0 = .ok (.aload_n 0, 1) := by decide +kernel
theorem dX12_mostEarly_1 : decode cX12_mostEarly 1 = .ok (.iload_n 1, 1) := by decide +kernel
theorem dX12_mostEarly_2 : decode cX12_mostEarly 2 = .ok (.invokevirtual 180, 3) := by decide +kernel
theorem dX12_mostEarly_5 : decode cX12_mostEarly 5 = .ok (.ifCond .ne 9, 3) := by decide +kernel
theorem dX12_mostEarly_8 : decode cX12_mostEarly 8 = .ok (.aload_n 0, 1) := by decide +kernel
theorem dX12_mostEarly_9 : decode cX12_mostEarly 9 = .ok (.iconst (-1), 1) := by decide +kernel
theorem dX12_mostEarly_10 : decode cX12_mostEarly 10 = .ok (.invokevirtual 128, 3) := by decide +kernel
theorem dX12_mostEarly_13 : decode cX12_mostEarly 13 = .ok (.ireturn, 1) := by decide +kernel
theorem dX12_mostEarly_14 : decode cX12_mostEarly 14 = .ok (.aload_n 0, 1) := by decide +kernel
theorem dX12_mostEarly_15 : decode cX12_mostEarly 15 = .ok (.invokevirtual 183, 3) := by decide +kernel
theorem dX12_mostEarly_18 : decode cX12_mostEarly 18 = .ok (.ifCond .ne 10, 3) := by decide +kernel
theorem dX12_mostEarly_21 : decode cX12_mostEarly 21 = .ok (.aload_n 0, 1) := by decide +kernel
theorem dX12_mostEarly_22 : decode cX12_mostEarly 22 = .ok (.bipush (-3), 2) := by decide +kernel
theorem dX12_mostEarly_24 : decode cX12_mostEarly 24 = .ok (.invokevirtual 128, 3) := by decide +kernel
theorem dX12_mostEarly_27 : decode cX12_mostEarly 27 = .ok (.ireturn, 1) := by decide +kernel
theorem dX12_mostEarly_28 : decode cX12_mostEarly 28 = .ok (.aload_n 0, 1) := by decide +kernel
theorem dX12_mostEarly_29 : decode cX12_mostEarly 29 = .ok (.getfield 40, 3) := by decide +kernel
theorem dX12_mostEarly_32 : decode cX12_mostEarly 32 = .ok (.iconst 2, 1) := by decide +kernel
theorem dX12_mostEarly_33 : decode cX12_mostEarly 33 = .ok (.iaload, 1) := by decide +kernel
theorem dX12_mostEarly_34 : decode cX12_mostEarly 34 = .ok (.istore_n 2, 1) := by decide +kernel
theorem dX12_mostEarly_35 : decode cX12_mostEarly 35 = .ok (.iconst 0, 1) := by decide +kernel
theorem dX12_mostEarly_36 : decode cX12_mostEarly 36 = .ok (.istore_n 3, 1) := by decide +kernel
theorem dX12_mostEarly_37 : decode cX12_mostEarly 37 = .ok (.ldc2_w 297, 3) := by decide +kernel
theorem dX12_mostEarly_40 : decode cX12_mostEarly 40 = .ok (.lstore 4, 2) := by decide +kernel
theorem dX12_mostEarly_42 : decode cX12_mostEarly 42 = .ok (.iconst 0, 1) := by decide +kernel
theorem dX12_mostEarly_43 : decode cX12_mostEarly 43 = .ok (.istore 6, 2) := by decide +kernel
theorem dX12_mostEarly_45 : decode cX12_mostEarly 45 = .ok (.iload 6, 2) := by decide +kernel
theorem dX12_mostEarly_47 : decode cX12_mostEarly 47 = .ok (.iconst 5, 1) := by decide +kernel
theorem dX12_mostEarly_48 : decode cX12_mostEarly 48 = .ok (.if_icmp .gt 47, 3) := by decide +kernel
theorem dX12_mostEarly_51 : decode cX12_mostEarly 51 = .ok (.aload_n 0, 1) := by decide +kernel
theorem dX12_mostEarly_52 : decode cX12_mostEarly 52 = .ok (.getfield 40, 3) := by decide +kernel
theorem dX12_mostEarly_55 : decode cX12_mostEarly 55 = .ok (.iconst 2, 1) := by decide +kernel
theorem dX12_mostEarly_56 : decode cX12_mostEarly 56 = .ok (.iload 6, 2) := by decide +kernel
theorem dX12_mostEarly_58 : decode cX12_mostEarly 58 = .ok (.iastore, 1) := by decide +kernel
theorem dX12_mostEarly_59 : decode cX12_mostEarly 59 = .ok (.aload_n 0, 1) := by decide +kernel
theorem dX12_mostEarly_60 : decode cX12_mostEarly 60 = .ok (.invokevirtual 247, 3) := by decide +kernel
theorem dX12_mostEarly_63 : decode cX12_mostEarly 63 = .ok (.aload_n 0, 1) := by decide +kernel
theorem dX12_mostEarly_64 : decode cX12_mostEarly 64 = .ok (.iconst 0, 1) := by decide +kernel
theorem dX12_mostEarly_65 : decode cX12_mostEarly 65 = .ok (.iload_n 1, 1) := by decide +kernel
theorem dX12_mostEarly_66 : decode cX12_mostEarly 66 = .ok (.invokevirtual 274, 3) := by decide +kernel
theorem dX12_mostEarly_69 : decode cX12_mostEarly 69 = .ok (.lstore 7, 2) := by decide +kernel
theorem dX12_mostEarly_71 : decode cX12_mostEarly 71 = .ok (.lload 7, 2) := by decide +kernel
theorem dX12_mostEarly_73 : decode cX12_mostEarly 73 = .ok (.lload 4, 2) := by decide +kernel
theorem dX12_mostEarly_75 : decode cX12_mostEarly 75 = .ok (.lcmp, 1) := by decide +kernel
theorem dX12_mostEarly_76 : decode cX12_mostEarly 76 = .ok (.ifCond .gt 6, 3) := by decide +kernel
theorem dX12_mostEarly_79 : decode cX12_mostEarly 79 = .ok (.goto 10, 3) := by decide +kernel
theorem dX12_mostEarly_82 : decode cX12_mostEarly 82 = .ok (.lload 7, 2) := by decide +kernel
theorem dX12_mostEarly_84 : decode cX12_mostEarly 84 = .ok (.lstore 4, 2) := by decide +kernel
theorem dX12_mostEarly_86 : decode cX12_mostEarly 86 = .ok (.iload 6, 2) := by decide +kernel
theorem dX12_mostEarly_88 : decode cX12_mostEarly 88 = .ok (.istore_n 3, 1) := by decide +kernel
theorem dX12_mostEarly_89 : decode cX12_mostEarly 89 = .ok (.iinc 6 1, 3) := by decide +kernel
theorem dX12_mostEarly_92 : decode cX12_mostEarly 92 = .ok (.goto (-47), 3) := by decide +kernel
theorem dX12_mostEarly_95 : decode cX12_mostEarly 95 = .ok (.aload_n 0, 1) := by decide +kernel
theorem dX12_mostEarly_96 : decode cX12_mostEarly 96 = .ok (.getfield 40, 3) := by decide +kernel
theorem dX12_mostEarly_99 : decode cX12_mostEarly 99 = .ok (.iconst 2, 1) := by decide +kernel
theorem dX12_mostEarly_100 : decode cX12_mostEarly 100 = .ok (.iload_n 2, 1) := by decide +kernel
theorem dX12_mostEarly_101 : decode cX12_mostEarly 101 = .ok (.iastore, 1) := by decide +kernel
theorem dX12_mostEarly_102 : decode cX12_mostEarly 102 = .ok (.iload_n 3, 1) := by decide +kernel
theorem dX12_mostEarly_103 : decode cX12_mostEarly 103 = .ok (.ireturn, 1) := by decide +kernel
set_option maxRecDepth 20000 in
theorem ggX12_silent_X12_isPlayer : GoodIn wsX12_silent wsX12_isPlayer := goodIn_r _ [8, 9, 60, 61, 62, 63, 64, 65, 66, 67, 68, 69, 70, 71, 72, 73, 74, 75, 76, 77, 78, 79, 80, 81, 82, 83, 84, 85, 86, 87, 88, 89, 90, 91, 92, 93, 94, 95, 96, 97, 98, 99, 100, 101, 102, 103, 104, 105, 106, 107, 108, 109, 110, 111] (by decide +kernel) (by decide +kernel)
set_option maxRecDepth 20000 in
theorem gX12_silent_X12_isPlayer : GoodIn wsX12_silent (wsV RX12 180 RX12 yX12_isPlayer wsX12_isPlayer) := goodIn_app (goodIn_of _ (by decide +kernel)) ggX12_silent_X12_isPlayer
set_option maxRecDepth 20000 in
theorem ggX12_silent_X12_isWord : GoodIn wsX12_silent wsX12_isWord := goodIn_r _ [13, 14, 60, 61, 62, 63, 64, 65, 66, 67, 68, 69, 70, 71, 72, 73, 74, 75, 76, 77, 78, 79, 80, 81, 82, 83, 84, 85, 86, 87, 88, 89, 90, 91, 92, 93, 94, 95, 96, 97, 98, 99, 100, 101, 102, 103, 104, 105, 106, 107, 108, 109, 110, 111] (by decide +kernel) (by decide +kernel)
set_option maxRecDepth 20000 in
theorem gX12_silent_X12_isWord : GoodIn wsX12_silent (wsV RX12 166 RX12 yX12_isWord wsX12_isWord) := goodIn_app (goodIn_of _ (by decide +kernel)) ggX12_silent_X12_isWord
set_option maxRecDepth 20000 in
theorem ggX12_silent_X12_no : GoodIn wsX12_silent wsX12_no := goodIn_r _ [18, 19, 60, 61, 62, 63, 64, 65, 66, 67, 68, 69, 70, 71, 72, 73, 74, 75, 76, 77, 78, 79, 80, 81, 82, 83, 84, 85, 86, 87, 88, 89, 90, 91, 92, 93, 94, 95, 96, 97, 98, 99, 100, 101, 102, 103, 104, 105, 106, 107, 108, 109, 110, 111] (by decide +kernel) (by decide +kernel)
set_option maxRecDepth 20000 in
theorem gX12_silent_X12_no : GoodIn wsX12_silent (wsV RX12 128 RX12 yX12_no wsX12_no) := goodIn_app (goodIn_of _ (by decide +kernel)) ggX12_silent_X12_no
set_option maxRecDepth 20000 in
theorem ggX12_silent_X12_isIn : GoodIn wsX12_silent wsX12_isIn := goodIn_r _ [22] (by decide +kernel) (by decide +kernel)
set_option maxRecDepth 20000 in
theorem gX12_silent_X12_isIn : GoodIn wsX12_silent (va_wsS RX12 140 yX12_isIn wsX12_isIn) := goodIn_app (goodIn_of _ (by decide +kernel)) ggX12_silent_X12_isIn
set_option maxRecDepth 20000 in
theorem ggX12_silent_X12_isWhole : GoodIn wsX12_silent wsX12_isWhole := goodIn_r _ [26, 14, 27, 28, 29, 30, 7, 31, 3, 60, 61, 62, 63, 64, 65, 66, 67, 68, 69, 70, 71, 72, 73, 74, 75, 76, 77, 78, 79, 80, 81, 82, 83, 84, 85, 86, 87, 88, 89, 90, 91, 92, 93, 94, 95, 96, 97, 98, 99, 100, 101, 102, 103, 104, 105, 106, 107, 108, 109, 110, 111] (by decide +kernel) (by decide +kernel)
set_option maxRecDepth 20000 in
theorem gX12_silent_X12_isWhole : GoodIn wsX12_silent (wsV RX12 183 RX12 yX12_isWhole wsX12_isWhole) := goodIn_app (goodIn_of _ (by decide +kernel)) ggX12_silent_X12_isWhole
set_option maxRecDepth 20000 in
theorem ggX12_silent_X12_findShares : GoodIn wsX12_silent wsX12_findShares := goodIn_r _ [35, 36, 14, 27, 37, 3, 38, 2, 39, 40, 41, 7, 42, 43, 44, 45, 46, 47, 48, 49, 60, 61, 62, 63, 64, 65, 66, 67, 68, 69, 70, 71, 72, 73, 74, 75, 76, 77, 78, 79, 80, 81, 82, 83, 84, 85, 86, 87, 88, 89, 90, 91, 92, 93, 94, 95, 96, 97, 98, 99, 100, 101, 102, 103, 104, 105, 106, 107, 108, 109, 110, 111] (by decide +kernel) (by decide +kernel)
set_option maxRecDepth 20000 in
theorem gX12_silent_X12_findShares : GoodIn wsX12_silent (wsV RX12 233 RX12 yX12_findShares wsX12_findShares) := goodIn_app (goodIn_of _ (by decide +kernel)) ggX12_silent_X12_findShares
set_option maxRecDepth 20000 in
theorem ggX12_silent_X12_sureOf : GoodIn wsX12_silent wsX12_sureOf := goodIn_r _ [53, 1, 54, 60, 61, 62, 63, 64, 65, 66, 67, 68, 69, 70, 71, 72, 73, 74, 75, 76, 77, 78, 79, 80, 81, 82, 83, 84, 85, 86, 87, 88, 89, 90, 91, 92, 93, 94, 95, 96, 97, 98, 99, 100, 101, 102, 103, 104, 105, 106, 107, 108, 109, 110, 111] (by decide +kernel) (by decide +kernel)
set_option maxRecDepth 20000 in
theorem gX12_silent_X12_sureOf : GoodIn wsX12_silent (wsV RX12 227 RX12 yX12_sureOf wsX12_sureOf) := goodIn_app (goodIn_of _ (by decide +kernel)) ggX12_silent_X12_sureOf
set_option maxRecDepth 20000 in
theorem ggX12_silent_X12_isSure : GoodIn wsX12_silent wsX12_isSure := goodIn_r _ [58, 27, 59, 2, 37, 60, 61, 62, 63, 64, 65, 66, 67, 68, 69, 70, 71, 72, 73, 74, 75, 76, 77, 78, 79, 80, 81, 82, 83, 84, 85, 86, 87, 88, 89, 90, 91, 92, 93, 94, 95, 96, 97, 98, 99, 100, 101, 102, 103, 104, 105, 106, 107, 108, 109, 110, 111] (by decide +kernel) (by decide +kernel)
set_option maxRecDepth 20000 in
theorem gX12_silent_X12_isSure : GoodIn wsX12_silent (wsV RX12 206 RX12 yX12_isSure wsX12_isSure) := goodIn_app (goodIn_of _ (by decide +kernel)) ggX12_silent_X12_isSure
theorem dX12_silent_0 : decode cX12_silent 0 = .ok (.aload_n 0, 1) := by decide +kernel
theorem dX12_silent_1 : decode cX12_silent 1 = .ok (.iload_n 1, 1) := by decide +kernel
theorem dX12_silent_2 : decode cX12_silent 2 = .ok (.invokevirtual 180, 3) := by decide +kernel
theorem dX12_silent_5 : decode cX12_silent 5 = .ok (.ifCond .eq 11, 3) := by decide +kernel
theorem dX12_silent_8 : decode cX12_silent 8 = .ok (.aload_n 0, 1) := by decide +kernel
theorem dX12_silent_9 : decode cX12_silent 9 = .ok (.iload_n 2, 1) := by decide +kernel
theorem dX12_silent_10 : decode cX12_silent 10 = .ok (.invokevirtual 166, 3) := by decide +kernel
theorem dX12_silent_13 : decode cX12_silent 13 = .ok (.ifCond .ne 9, 3) := by decide +kernel
theorem dX12_silent_16 : decode cX12_silent 16 = .ok (.aload_n 0, 1) := by decide +kernel
theorem dX12_silent_17 : decode cX12_silent 17 = .ok (.iconst (-1), 1) := by decide +kernel
theorem dX12_silent_18 : decode cX12_silent 18 = .ok (.invokevirtual 128, 3) := by decide +kernel
theorem dX12_silent_21 : decode cX12_silent 21 = .ok (.ireturn, 1) := by decide +kernel
theorem dX12_silent_22 : decode cX12_silent 22 = .ok (.aload_n 0, 1) := by decide +kernel
theorem dX12_silent_23 : decode cX12_silent 23 = .ok (.getfield 25, 3) := by decide +kernel
theorem dX12_silent_26 : decode cX12_silent 26 = .ok (.iload_n 1, 1) := by decide +kernel
theorem dX12_silent_27 : decode cX12_silent 27 = .ok (.iaload, 1) := by decide +kernel
theorem dX12_silent_28 : decode cX12_silent 28 = .ok (.iconst 1, 1) := by decide +kernel
theorem dX12_silent_29 : decode cX12_silent 29 = .ok (.iconst 2, 1) := by decide +kernel
theorem dX12_silent_30 : decode cX12_silent 30 = .ok (.invokestatic 140, 3) := by decide +kernel
theorem dX12_silent_33 : decode cX12_silent 33 = .ok (.ifCond .ne 10, 3) := by decide +kernel
theorem dX12_silent_36 : decode cX12_silent 36 = .ok (.aload_n 0, 1) := by decide +kernel
theorem dX12_silent_37 : decode cX12_silent 37 = .ok (.bipush (-2), 2) := by decide +kernel
theorem dX12_silent_39 : decode cX12_silent 39 = .ok (.invokevirtual 128, 3) := by decide +kernel
theorem dX12_silent_42 : decode cX12_silent 42 = .ok (.ireturn, 1) := by decide +kernel
theorem dX12_silent_43 : decode cX12_silent 43 = .ok (.aload_n 0, 1) := by decide +kernel
theorem dX12_silent_44 : decode cX12_silent 44 = .ok (.invokevirtual 183, 3) := by decide +kernel
theorem dX12_silent_47 : decode cX12_silent 47 = .ok (.ifCond .ne 10, 3) := by decide +kernel
theorem dX12_silent_50 : decode cX12_silent 50 = .ok (.aload_n 0, 1) := by decide +kernel
theorem dX12_silent_51 : decode cX12_silent 51 = .ok (.bipush (-3), 2) := by decide +kernel
theorem dX12_silent_53 : decode cX12_silent 53 = .ok (.invokevirtual 128, 3) := by decide +kernel
theorem dX12_silent_56 : decode cX12_silent 56 = .ok (.ireturn, 1) := by decide +kernel
theorem dX12_silent_57 : decode cX12_silent 57 = .ok (.aload_n 0, 1) := by decide +kernel
theorem dX12_silent_58 : decode cX12_silent 58 = .ok (.invokevirtual 233, 3) := by decide +kernel
theorem dX12_silent_61 : decode cX12_silent 61 = .ok (.iconst 0, 1) := by decide +kernel
theorem dX12_silent_62 : decode cX12_silent 62 = .ok (.istore_n 3, 1) := by decide +kernel
theorem dX12_silent_63 : decode cX12_silent 63 = .ok (.iconst 1, 1) := by decide +kernel
theorem dX12_silent_64 : decode cX12_silent 64 = .ok (.istore 4, 2) := by decide +kernel
theorem dX12_silent_66 : decode cX12_silent 66 = .ok (.iload 4, 2) := by decide +kernel
theorem dX12_silent_68 : decode cX12_silent 68 = .ok (.bipush 10, 2) := by decide +kernel
theorem dX12_silent_70 : decode cX12_silent 70 = .ok (.if_icmp .ge 70, 3) := by decide +kernel
theorem dX12_silent_73 : decode cX12_silent 73 = .ok (.iload_n 2, 1) := by decide +kernel
theorem dX12_silent_74 : decode cX12_silent 74 = .ok (.istore 5, 2) := by decide +kernel
theorem dX12_silent_76 : decode cX12_silent 76 = .ok (.iload 5, 2) := by decide +kernel
theorem dX12_silent_78 : decode cX12_silent 78 = .ok (.ifCond .le 56, 3) := by decide +kernel
theorem dX12_silent_81 : decode cX12_silent 81 = .ok (.aload_n 0, 1) := by decide +kernel
theorem dX12_silent_82 : decode cX12_silent 82 = .ok (.getfield 75, 3) := by decide +kernel
theorem dX12_silent_85 : decode cX12_silent 85 = .ok (.bipush 10, 2) := by decide +kernel
theorem dX12_silent_87 : decode cX12_silent 87 = .ok (.iload 5, 2) := by decide +kernel
theorem dX12_silent_89 : decode cX12_silent 89 = .ok (.imul, 1) := by decide +kernel
theorem dX12_silent_90 : decode cX12_silent 90 = .ok (.iload 4, 2) := by decide +kernel
theorem dX12_silent_92 : decode cX12_silent 92 = .ok (.iadd, 1) := by decide +kernel
theorem dX12_silent_93 : decode cX12_silent 93 = .ok (.laload, 1) := by decide +kernel
theorem dX12_silent_94 : decode cX12_silent 94 = .ok (.lconst 0, 1) := by decide +kernel
theorem dX12_silent_95 : decode cX12_silent 95 = .ok (.lcmp, 1) := by decide +kernel
theorem dX12_silent_96 : decode cX12_silent 96 = .ok (.ifCond .le 26, 3) := by decide +kernel
theorem dX12_silent_99 : decode cX12_silent 99 = .ok (.aload_n 0, 1) := by decide +kernel
theorem dX12_silent_100 : decode cX12_silent 100 = .ok (.iload 5, 2) := by decide +kernel
theorem dX12_silent_102 : decode cX12_silent 102 = .ok (.iload 4, 2) := by decide +kernel
theorem dX12_silent_104 : decode cX12_silent 104 = .ok (.aload_n 0, 1) := by decide +kernel
theorem dX12_silent_105 : decode cX12_silent 105 = .ok (.iload_n 1, 1) := by decide +kernel
theorem dX12_silent_106 : decode cX12_silent 106 = .ok (.invokevirtual 227, 3) := by decide +kernel
theorem dX12_silent_109 : decode cX12_silent 109 = .ok (.invokevirtual 206, 3) := by decide +kernel
theorem dX12_silent_112 : decode cX12_silent 112 = .ok (.ifCond .eq 10, 3) := by decide +kernel
theorem dX12_silent_115 : decode cX12_silent 115 = .ok (.iload_n 3, 1) := by decide +kernel
theorem dX12_silent_116 : decode cX12_silent 116 = .ok (.iconst 1, 1) := by decide +kernel
theorem dX12_silent_117 : decode cX12_silent 117 = .ok (.iload 4, 2) := by decide +kernel
theorem dX12_silent_119 : decode cX12_silent 119 = .ok (.ishl, 1) := by decide +kernel
theorem dX12_silent_120 : decode cX12_silent 120 = .ok (.ior, 1) := by decide +kernel
theorem dX12_silent_121 : decode cX12_silent 121 = .ok (.istore_n 3, 1) := by decide +kernel
theorem dX12_silent_122 : decode cX12_silent 122 = .ok (.aload_n 0, 1) := by decide +kernel
theorem dX12_silent_123 : decode cX12_silent 123 = .ok (.getfield 13, 3) := by decide +kernel
theorem dX12_silent_126 : decode cX12_silent 126 = .ok (.iload 5, 2) := by decide +kernel
theorem dX12_silent_128 : decode cX12_silent 128 = .ok (.iaload, 1) := by decide +kernel
theorem dX12_silent_129 : decode cX12_silent 129 = .ok (.istore 5, 2) := by decide +kernel
theorem dX12_silent_131 : decode cX12_silent 131 = .ok (.goto (-55), 3) := by decide +kernel
theorem dX12_silent_134 : decode cX12_silent 134 = .ok (.iinc 4 1, 3) := by decide +kernel
theorem dX12_silent_137 : decode cX12_silent 137 = .ok (.goto (-71), 3) := by decide +kernel
theorem dX12_silent_140 : decode cX12_silent 140 = .ok (.iload_n 3, 1) := by decide +kernel
theorem dX12_silent_141 : decode cX12_silent 141 = .ok (.ireturn, 1) := by decide +kernel
set_option maxRecDepth 20000 in
theorem ggX12_partners_X12_isPlayer : GoodIn wsX12_partners wsX12_isPlayer := goodIn_r _ [7, 8, 51, 52, 53, 54, 55, 56, 57, 58, 59, 60, 61, 62, 63, 64, 65, 66, 67, 68, 69, 70, 71, 72, 73, 74, 75, 76, 77, 78, 79, 80, 81, 82, 83, 84, 85, 86, 87, 88, 89, 90, 91, 92, 93, 94, 95, 96, 97, 98, 99, 100, 101, 102] (by decide +kernel) (by decide +kernel)
set_option maxRecDepth 20000 in
theorem gX12_partners_X12_isPlayer : GoodIn wsX12_partners (wsV RX12 180 RX12 yX12_isPlayer wsX12_isPlayer) := goodIn_app (goodIn_of _ (by decide +kernel)) ggX12_partners_X12_isPlayer
set_option maxRecDepth 20000 in
theorem ggX12_partners_X12_isWord : GoodIn wsX12_partners wsX12_isWord := goodIn_r _ [12, 13, 51, 52, 53, 54, 55, 56, 57, 58, 59, 60, 61, 62, 63, 64, 65, 66, 67, 68, 69, 70, 71, 72, 73, 74, 75, 76, 77, 78, 79, 80, 81, 82, 83, 84, 85, 86, 87, 88, 89, 90, 91, 92, 93, 94, 95, 96, 97, 98, 99, 100, 101, 102] (by decide +kernel) (by decide +kernel)
set_option maxRecDepth 20000 in
theorem gX12_partners_X12_isWord : GoodIn wsX12_partners (wsV RX12 166 RX12 yX12_isWord wsX12_isWord) := goodIn_app (goodIn_of _ (by decide +kernel)) ggX12_partners_X12_isWord
set_option maxRecDepth 20000 in
theorem ggX12_partners_X12_no : GoodIn wsX12_partners wsX12_no := goodIn_r _ [17, 18, 51, 52, 53, 54, 55, 56, 57, 58, 59, 60, 61, 62, 63, 64, 65, 66, 67, 68, 69, 70, 71, 72, 73, 74, 75, 76, 77, 78, 79, 80, 81, 82, 83, 84, 85, 86, 87, 88, 89, 90, 91, 92, 93, 94, 95, 96, 97, 98, 99, 100, 101, 102] (by decide +kernel) (by decide +kernel)
set_option maxRecDepth 20000 in
theorem gX12_partners_X12_no : GoodIn wsX12_partners (wsV RX12 128 RX12 yX12_no wsX12_no) := goodIn_app (goodIn_of _ (by decide +kernel)) ggX12_partners_X12_no
set_option maxRecDepth 20000 in
theorem ggX12_partners_X12_isWhole : GoodIn wsX12_partners wsX12_isWhole := goodIn_r _ [22, 13, 23, 24, 25, 26, 6, 27, 28, 51, 52, 53, 54, 55, 56, 57, 58, 59, 60, 61, 62, 63, 64, 65, 66, 67, 68, 69, 70, 71, 72, 73, 74, 75, 76, 77, 78, 79, 80, 81, 82, 83, 84, 85, 86, 87, 88, 89, 90, 91, 92, 93, 94, 95, 96, 97, 98, 99, 100, 101, 102] (by decide +kernel) (by decide +kernel)
set_option maxRecDepth 20000 in
theorem gX12_partners_X12_isWhole : GoodIn wsX12_partners (wsV RX12 183 RX12 yX12_isWhole wsX12_isWhole) := goodIn_app (goodIn_of _ (by decide +kernel)) ggX12_partners_X12_isWhole
set_option maxRecDepth 20000 in
theorem ggX12_partners_X12_findShares : GoodIn wsX12_partners wsX12_findShares := goodIn_r _ [32, 33, 13, 23, 34, 28, 35, 2, 36, 37, 38, 6, 39, 40, 41, 42, 43, 44, 45, 46, 51, 52, 53, 54, 55, 56, 57, 58, 59, 60, 61, 62, 63, 64, 65, 66, 67, 68, 69, 70, 71, 72, 73, 74, 75, 76, 77, 78, 79, 80, 81, 82, 83, 84, 85, 86, 87, 88, 89, 90, 91, 92, 93, 94, 95, 96, 97, 98, 99, 100, 101, 102] (by decide +kernel) (by decide +kernel)
set_option maxRecDepth 20000 in
theorem gX12_partners_X12_findShares : GoodIn wsX12_partners (wsV RX12 233 RX12 yX12_findShares wsX12_findShares) := goodIn_app (goodIn_of _ (by decide +kernel)) ggX12_partners_X12_findShares
set_option maxRecDepth 20000 in
theorem ggX12_partners_X12_guessOf : GoodIn wsX12_partners wsX12_guessOf := goodIn_r _ [50, 2, 51, 52, 53, 54, 55, 56, 57, 58, 59, 60, 61, 62, 63, 64, 65, 66, 67, 68, 69, 70, 71, 72, 73, 74, 75, 76, 77, 78, 79, 80, 81, 82, 83, 84, 85, 86, 87, 88, 89, 90, 91, 92, 93, 94, 95, 96, 97, 98, 99, 100, 101, 102] (by decide +kernel) (by decide +kernel)
set_option maxRecDepth 20000 in
theorem gX12_partners_X12_guessOf : GoodIn wsX12_partners (wsV RX12 219 RX12 yX12_guessOf wsX12_guessOf) := goodIn_app (goodIn_of _ (by decide +kernel)) ggX12_partners_X12_guessOf
theorem dX12_partners_0 : decode cX12_partners 0 = .ok (.aload_n 0, 1) := by decide +kernel
theorem dX12_partners_1 : decode cX12_partners 1 = .ok (.iload_n 1, 1) := by decide +kernel
theorem dX12_partners_2 : decode cX12_partners 2 = .ok (.invokevirtual 180, 3) := by decide +kernel
theorem dX12_partners_5 : decode cX12_partners 5 = .ok (.ifCond .eq 24, 3) := by decide +kernel
theorem dX12_partners_8 : decode cX12_partners 8 = .ok (.aload_n 0, 1) := by decide +kernel
theorem dX12_partners_9 : decode cX12_partners 9 = .ok (.iload_n 2, 1) := by decide +kernel
theorem dX12_partners_10 : decode cX12_partners 10 = .ok (.invokevirtual 180, 3) := by decide +kernel
theorem dX12_partners_13 : decode cX12_partners 13 = .ok (.ifCond .eq 16, 3) := by decide +kernel
theorem dX12_partners_16 : decode cX12_partners 16 = .ok (.iload_n 1, 1) := by decide +kernel
theorem dX12_partners_17 : decode cX12_partners 17 = .ok (.iload_n 2, 1) := by decide +kernel
theorem dX12_partners_18 : decode cX12_partners 18 = .ok (.if_icmp .eq 11, 3) := by decide +kernel
theorem dX12_partners_21 : decode cX12_partners 21 = .ok (.aload_n 0, 1) := by decide +kernel
theorem dX12_partners_22 : decode cX12_partners 22 = .ok (.iload_n 3, 1) := by decide +kernel
theorem dX12_partners_23 : decode cX12_partners 23 = .ok (.invokevirtual 166, 3) := by decide +kernel
theorem dX12_partners_26 : decode cX12_partners 26 = .ok (.ifCond .ne 9, 3) := by decide +kernel
theorem dX12_partners_29 : decode cX12_partners 29 = .ok (.aload_n 0, 1) := by decide +kernel
theorem dX12_partners_30 : decode cX12_partners 30 = .ok (.iconst (-1), 1) := by decide +kernel
theorem dX12_partners_31 : decode cX12_partners 31 = .ok (.invokevirtual 128, 3) := by decide +kernel
theorem dX12_partners_34 : decode cX12_partners 34 = .ok (.ireturn, 1) := by decide +kernel
theorem dX12_partners_35 : decode cX12_partners 35 = .ok (.aload_n 0, 1) := by decide +kernel
theorem dX12_partners_36 : decode cX12_partners 36 = .ok (.invokevirtual 183, 3) := by decide +kernel
theorem dX12_partners_39 : decode cX12_partners 39 = .ok (.ifCond .ne 10, 3) := by decide +kernel
theorem dX12_partners_42 : decode cX12_partners 42 = .ok (.aload_n 0, 1) := by decide +kernel
theorem dX12_partners_43 : decode cX12_partners 43 = .ok (.bipush (-3), 2) := by decide +kernel
theorem dX12_partners_45 : decode cX12_partners 45 = .ok (.invokevirtual 128, 3) := by decide +kernel
theorem dX12_partners_48 : decode cX12_partners 48 = .ok (.ireturn, 1) := by decide +kernel
theorem dX12_partners_49 : decode cX12_partners 49 = .ok (.aload_n 0, 1) := by decide +kernel
theorem dX12_partners_50 : decode cX12_partners 50 = .ok (.invokevirtual 233, 3) := by decide +kernel
theorem dX12_partners_53 : decode cX12_partners 53 = .ok (.aload_n 0, 1) := by decide +kernel
theorem dX12_partners_54 : decode cX12_partners 54 = .ok (.aload_n 0, 1) := by decide +kernel
theorem dX12_partners_55 : decode cX12_partners 55 = .ok (.getfield 28, 3) := by decide +kernel
theorem dX12_partners_58 : decode cX12_partners 58 = .ok (.iload_n 1, 1) := by decide +kernel
theorem dX12_partners_59 : decode cX12_partners 59 = .ok (.iaload, 1) := by decide +kernel
theorem dX12_partners_60 : decode cX12_partners 60 = .ok (.iload_n 3, 1) := by decide +kernel
theorem dX12_partners_61 : decode cX12_partners 61 = .ok (.invokevirtual 219, 3) := by decide +kernel
theorem dX12_partners_64 : decode cX12_partners 64 = .ok (.istore 4, 2) := by decide +kernel
theorem dX12_partners_66 : decode cX12_partners 66 = .ok (.aload_n 0, 1) := by decide +kernel
theorem dX12_partners_67 : decode cX12_partners 67 = .ok (.aload_n 0, 1) := by decide +kernel
theorem dX12_partners_68 : decode cX12_partners 68 = .ok (.getfield 28, 3) := by decide +kernel
theorem dX12_partners_71 : decode cX12_partners 71 = .ok (.iload_n 2, 1) := by decide +kernel
theorem dX12_partners_72 : decode cX12_partners 72 = .ok (.iaload, 1) := by decide +kernel
theorem dX12_partners_73 : decode cX12_partners 73 = .ok (.iload_n 3, 1) := by decide +kernel
theorem dX12_partners_74 : decode cX12_partners 74 = .ok (.invokevirtual 219, 3) := by decide +kernel
theorem dX12_partners_77 : decode cX12_partners 77 = .ok (.istore 5, 2) := by decide +kernel
theorem dX12_partners_79 : decode cX12_partners 79 = .ok (.iload 4, 2) := by decide +kernel
theorem dX12_partners_81 : decode cX12_partners 81 = .ok (.ifCond .ne 11, 3) := by decide +kernel
theorem dX12_partners_84 : decode cX12_partners 84 = .ok (.iload 5, 2) := by decide +kernel
theorem dX12_partners_86 : decode cX12_partners 86 = .ok (.ifCond .ne 6, 3) := by decide +kernel
theorem dX12_partners_89 : decode cX12_partners 89 = .ok (.bipush (-9), 2) := by decide +kernel
theorem dX12_partners_91 : decode cX12_partners 91 = .ok (.ireturn, 1) := by decide +kernel
theorem dX12_partners_92 : decode cX12_partners 92 = .ok (.iload 4, 2) := by decide +kernel
theorem dX12_partners_94 : decode cX12_partners 94 = .ok (.ifCond .eq 8, 3) := by decide +kernel
theorem dX12_partners_97 : decode cX12_partners 97 = .ok (.iload 5, 2) := by decide +kernel
theorem dX12_partners_99 : decode cX12_partners 99 = .ok (.ifCond .ne 14, 3) := by decide +kernel
theorem dX12_partners_102 : decode cX12_partners 102 = .ok (.iload 4, 2) := by decide +kernel
theorem dX12_partners_104 : decode cX12_partners 104 = .ok (.ifCond .ne 7, 3) := by decide +kernel
theorem dX12_partners_107 : decode cX12_partners 107 = .ok (.iload_n 2, 1) := by decide +kernel
theorem dX12_partners_108 : decode cX12_partners 108 = .ok (.goto 4, 3) := by decide +kernel
theorem dX12_partners_111 : decode cX12_partners 111 = .ok (.iload_n 1, 1) := by decide +kernel
theorem dX12_partners_112 : decode cX12_partners 112 = .ok (.ireturn, 1) := by decide +kernel
theorem dX12_partners_113 : decode cX12_partners 113 = .ok (.aload_n 0, 1) := by decide +kernel
theorem dX12_partners_114 : decode cX12_partners 114 = .ok (.getfield 75, 3) := by decide +kernel
theorem dX12_partners_117 : decode cX12_partners 117 = .ok (.bipush 10, 2) := by decide +kernel
theorem dX12_partners_119 : decode cX12_partners 119 = .ok (.iload_n 3, 1) := by decide +kernel
theorem dX12_partners_120 : decode cX12_partners 120 = .ok (.imul, 1) := by decide +kernel
theorem dX12_partners_121 : decode cX12_partners 121 = .ok (.iload 5, 2) := by decide +kernel
theorem dX12_partners_123 : decode cX12_partners 123 = .ok (.iadd, 1) := by decide +kernel
theorem dX12_partners_124 : decode cX12_partners 124 = .ok (.laload, 1) := by decide +kernel
theorem dX12_partners_125 : decode cX12_partners 125 = .ok (.aload_n 0, 1) := by decide +kernel
theorem dX12_partners_126 : decode cX12_partners 126 = .ok (.getfield 75, 3) := by decide +kernel
theorem dX12_partners_129 : decode cX12_partners 129 = .ok (.bipush 10, 2) := by decide +kernel
theorem dX12_partners_131 : decode cX12_partners 131 = .ok (.iload_n 3, 1) := by decide +kernel
theorem dX12_partners_132 : decode cX12_partners 132 = .ok (.imul, 1) := by decide +kernel
theorem dX12_partners_133 : decode cX12_partners 133 = .ok (.iload 4, 2) := by decide +kernel
theorem dX12_partners_135 : decode cX12_partners 135 = .ok (.iadd, 1) := by decide +kernel
theorem dX12_partners_136 : decode cX12_partners 136 = .ok (.laload, 1) := by decide +kernel
theorem dX12_partners_137 : decode cX12_partners 137 = .ok (.lcmp, 1) := by decide +kernel
theorem dX12_partners_138 : decode cX12_partners 138 = .ok (.ifCond .le 7, 3) := by decide +kernel
theorem dX12_partners_141 : decode cX12_partners 141 = .ok (.iload_n 2, 1) := by decide +kernel
theorem dX12_partners_142 : decode cX12_partners 142 = .ok (.goto 4, 3) := by decide +kernel
theorem dX12_partners_145 : decode cX12_partners 145 = .ok (.iload_n 1, 1) := by decide +kernel
theorem dX12_partners_146 : decode cX12_partners 146 = .ok (.ireturn, 1) := by decide +kernel
set_option maxRecDepth 20000 in
theorem ggX12_fact_X12_isIn : GoodIn wsX12_fact wsX12_isIn := goodIn_r _ [6] (by decide +kernel) (by decide +kernel)
set_option maxRecDepth 20000 in
theorem gX12_fact_X12_isIn : GoodIn wsX12_fact (va_wsS RX12 140 yX12_isIn wsX12_isIn) := goodIn_app (goodIn_of _ (by decide +kernel)) ggX12_fact_X12_isIn
set_option maxRecDepth 20000 in
theorem ggX12_fact_X12_no : GoodIn wsX12_fact wsX12_no := goodIn_r _ [10, 11, 12, 13, 14, 15, 16, 17, 18, 19, 20, 21, 22, 23, 24, 25, 26, 27, 28, 29, 30, 31, 32, 33, 34, 35, 36, 37, 38, 39, 40, 41, 42, 43, 44, 45, 46, 47, 48, 49, 50, 51, 52, 53, 54, 55, 56, 57, 58, 59, 60, 61, 62, 63] (by decide +kernel) (by decide +kernel)
set_option maxRecDepth 20000 in
theorem gX12_fact_X12_no : GoodIn wsX12_fact (wsV RX12 128 RX12 yX12_no wsX12_no) := goodIn_app (goodIn_of _ (by decide +kernel)) ggX12_fact_X12_no
theorem dX12_fact_0 : decode cX12_fact 0 = .ok (.iload_n 1, 1) := by decide +kernel
theorem dX12_fact_1 : decode cX12_fact 1 = .ok (.iconst 0, 1) := by decide +kernel
theorem dX12_fact_2 : decode cX12_fact 2 = .ok (.sipush 1022, 3) := by decide +kernel
theorem dX12_fact_5 : decode cX12_fact 5 = .ok (.invokestatic 140, 3) := by decide +kernel
theorem dX12_fact_8 : decode cX12_fact 8 = .ok (.ifCond .eq 9, 3) := by decide +kernel
theorem dX12_fact_11 : decode cX12_fact 11 = .ok (.iload_n 1, 1) := by decide +kernel
theorem dX12_fact_12 : decode cX12_fact 12 = .ok (.iconst 2, 1) := by decide +kernel
theorem dX12_fact_13 : decode cX12_fact 13 = .ok (.irem, 1) := by decide +kernel
theorem dX12_fact_14 : decode cX12_fact 14 = .ok (.ifCond .eq 9, 3) := by decide +kernel
theorem dX12_fact_17 : decode cX12_fact 17 = .ok (.aload_n 0, 1) := by decide +kernel
theorem dX12_fact_18 : decode cX12_fact 18 = .ok (.iconst (-1), 1) := by decide +kernel
theorem dX12_fact_19 : decode cX12_fact 19 = .ok (.invokevirtual 128, 3) := by decide +kernel
theorem dX12_fact_22 : decode cX12_fact 22 = .ok (.ireturn, 1) := by decide +kernel
theorem dX12_fact_23 : decode cX12_fact 23 = .ok (.aload_n 0, 1) := by decide +kernel
theorem dX12_fact_24 : decode cX12_fact 24 = .ok (.getfield 299, 3) := by decide +kernel
theorem dX12_fact_27 : decode cX12_fact 27 = .ok (.iconst 5, 1) := by decide +kernel
theorem dX12_fact_28 : decode cX12_fact 28 = .ok (.if_icmp .ne 10, 3) := by decide +kernel
theorem dX12_fact_31 : decode cX12_fact 31 = .ok (.aload_n 0, 1) := by decide +kernel
theorem dX12_fact_32 : decode cX12_fact 32 = .ok (.bipush (-6), 2) := by decide +kernel
theorem dX12_fact_34 : decode cX12_fact 34 = .ok (.invokevirtual 128, 3) := by decide +kernel
theorem dX12_fact_37 : decode cX12_fact 37 = .ok (.ireturn, 1) := by decide +kernel
theorem dX12_fact_38 : decode cX12_fact 38 = .ok (.aload_n 0, 1) := by decide +kernel
theorem dX12_fact_39 : decode cX12_fact 39 = .ok (.getfield 96, 3) := by decide +kernel
theorem dX12_fact_42 : decode cX12_fact 42 = .ok (.aload_n 0, 1) := by decide +kernel
theorem dX12_fact_43 : decode cX12_fact 43 = .ok (.getfield 299, 3) := by decide +kernel
theorem dX12_fact_46 : decode cX12_fact 46 = .ok (.iload_n 1, 1) := by decide +kernel
theorem dX12_fact_47 : decode cX12_fact 47 = .ok (.iastore, 1) := by decide +kernel
theorem dX12_fact_48 : decode cX12_fact 48 = .ok (.aload_n 0, 1) := by decide +kernel
theorem dX12_fact_49 : decode cX12_fact 49 = .ok (.dup, 1) := by decide +kernel
theorem dX12_fact_50 : decode cX12_fact 50 = .ok (.getfield 299, 3) := by decide +kernel
theorem dX12_fact_53 : decode cX12_fact 53 = .ok (.iconst 1, 1) := by decide +kernel
theorem dX12_fact_54 : decode cX12_fact 54 = .ok (.iadd, 1) := by decide +kernel
theorem dX12_fact_55 : decode cX12_fact 55 = .ok (.putfield 299, 3) := by decide +kernel
theorem dX12_fact_58 : decode cX12_fact 58 = .ok (.aload_n 0, 1) := by decide +kernel
theorem dX12_fact_59 : decode cX12_fact 59 = .ok (.getfield 299, 3) := by decide +kernel
theorem dX12_fact_62 : decode cX12_fact 62 = .ok (.iconst 1, 1) := by decide +kernel
theorem dX12_fact_63 : decode cX12_fact 63 = .ok (.isub, 1) := by decide +kernel
theorem dX12_fact_64 : decode cX12_fact 64 = .ok (.ireturn, 1) := by decide +kernel
theorem dX12_bits_0 : decode cX12_bits 0 = .ok (.iconst 0, 1) := by decide +kernel
theorem dX12_bits_1 : decode cX12_bits 1 = .ok (.istore_n 1, 1) := by decide +kernel
theorem dX12_bits_2 : decode cX12_bits 2 = .ok (.iconst 0, 1) := by decide +kernel
theorem dX12_bits_3 : decode cX12_bits 3 = .ok (.istore_n 2, 1) := by decide +kernel
theorem dX12_bits_4 : decode cX12_bits 4 = .ok (.iload_n 2, 1) := by decide +kernel
theorem dX12_bits_5 : decode cX12_bits 5 = .ok (.bipush 31, 2) := by decide +kernel
theorem dX12_bits_7 : decode cX12_bits 7 = .ok (.if_icmp .ge 17, 3) := by decide +kernel
theorem dX12_bits_10 : decode cX12_bits 10 = .ok (.iload_n 1, 1) := by decide +kernel
theorem dX12_bits_11 : decode cX12_bits 11 = .ok (.iload_n 0, 1) := by decide +kernel
theorem dX12_bits_12 : decode cX12_bits 12 = .ok (.iload_n 2, 1) := by decide +kernel
theorem dX12_bits_13 : decode cX12_bits 13 = .ok (.ishr, 1) := by decide +kernel
theorem dX12_bits_14 : decode cX12_bits 14 = .ok (.iconst 1, 1) := by decide +kernel
theorem dX12_bits_15 : decode cX12_bits 15 = .ok (.iand, 1) := by decide +kernel
theorem dX12_bits_16 : decode cX12_bits 16 = .ok (.iadd, 1) := by decide +kernel
theorem dX12_bits_17 : decode cX12_bits 17 = .ok (.istore_n 1, 1) := by decide +kernel
theorem dX12_bits_18 : decode cX12_bits 18 = .ok (.iinc 2 1, 3) := by decide +kernel
theorem dX12_bits_21 : decode cX12_bits 21 = .ok (.goto (-17), 3) := by decide +kernel
theorem dX12_bits_24 : decode cX12_bits 24 = .ok (.iload_n 1, 1) := by decide +kernel
theorem dX12_bits_25 : decode cX12_bits 25 = .ok (.ireturn, 1) := by decide +kernel
set_option maxRecDepth 20000 in
theorem ggX12_hadOf_X12_bits : GoodIn wsX12_hadOf wsX12_bits := goodIn_r _ [6] (by decide +kernel) (by decide +kernel)
set_option maxRecDepth 20000 in
theorem gX12_hadOf_X12_bits : GoodIn wsX12_hadOf (va_wsS RX12 302 yX12_bits wsX12_bits) := goodIn_app (goodIn_of _ (by decide +kernel)) ggX12_hadOf_X12_bits
theorem dX12_hadOf_0 : decode cX12_hadOf 0 = .ok (.sipush 1022, 3) := by decide +kernel
theorem dX12_hadOf_3 : decode cX12_hadOf 3 = .ok (.istore_n 2, 1) := by decide +kernel
theorem dX12_hadOf_4 : decode cX12_hadOf 4 = .ok (.iconst 0, 1) := by decide +kernel
theorem dX12_hadOf_5 : decode cX12_hadOf 5 = .ok (.istore_n 3, 1) := by decide +kernel
theorem dX12_hadOf_6 : decode cX12_hadOf 6 = .ok (.iload_n 3, 1) := by decide +kernel
theorem dX12_hadOf_7 : decode cX12_hadOf 7 = .ok (.iload_n 1, 1) := by decide +kernel
theorem dX12_hadOf_8 : decode cX12_hadOf 8 = .ok (.if_icmp .ge 35, 3) := by decide +kernel
theorem dX12_hadOf_11 : decode cX12_hadOf 11 = .ok (.iload_n 2, 1) := by decide +kernel
theorem dX12_hadOf_12 : decode cX12_hadOf 12 = .ok (.aload_n 0, 1) := by decide +kernel
theorem dX12_hadOf_13 : decode cX12_hadOf 13 = .ok (.getfield 96, 3) := by decide +kernel
theorem dX12_hadOf_16 : decode cX12_hadOf 16 = .ok (.aload_n 0, 1) := by decide +kernel
theorem dX12_hadOf_17 : decode cX12_hadOf 17 = .ok (.getfield 99, 3) := by decide +kernel
theorem dX12_hadOf_20 : decode cX12_hadOf 20 = .ok (.iload_n 3, 1) := by decide +kernel
theorem dX12_hadOf_21 : decode cX12_hadOf 21 = .ok (.iaload, 1) := by decide +kernel
theorem dX12_hadOf_22 : decode cX12_hadOf 22 = .ok (.iaload, 1) := by decide +kernel
theorem dX12_hadOf_23 : decode cX12_hadOf 23 = .ok (.iand, 1) := by decide +kernel
theorem dX12_hadOf_24 : decode cX12_hadOf 24 = .ok (.istore_n 2, 1) := by decide +kernel
theorem dX12_hadOf_25 : decode cX12_hadOf 25 = .ok (.iload_n 2, 1) := by decide +kernel
theorem dX12_hadOf_26 : decode cX12_hadOf 26 = .ok (.invokestatic 302, 3) := by decide +kernel
theorem dX12_hadOf_29 : decode cX12_hadOf 29 = .ok (.iconst 1, 1) := by decide +kernel
theorem dX12_hadOf_30 : decode cX12_hadOf 30 = .ok (.if_icmp .ne 7, 3) := by decide +kernel
theorem dX12_hadOf_33 : decode cX12_hadOf 33 = .ok (.iload_n 3, 1) := by decide +kernel
theorem dX12_hadOf_34 : decode cX12_hadOf 34 = .ok (.iconst 1, 1) := by decide +kernel
theorem dX12_hadOf_35 : decode cX12_hadOf 35 = .ok (.iadd, 1) := by decide +kernel
theorem dX12_hadOf_36 : decode cX12_hadOf 36 = .ok (.ireturn, 1) := by decide +kernel
theorem dX12_hadOf_37 : decode cX12_hadOf 37 = .ok (.iinc 3 1, 3) := by decide +kernel
theorem dX12_hadOf_40 : decode cX12_hadOf 40 = .ok (.goto (-34), 3) := by decide +kernel
theorem dX12_hadOf_43 : decode cX12_hadOf 43 = .ok (.bipush 6, 2) := by decide +kernel
theorem dX12_hadOf_45 : decode cX12_hadOf 45 = .ok (.ireturn, 1) := by decide +kernel
set_option maxRecDepth 20000 in
theorem ggX12_had_X12_bound : GoodIn wsX12_had wsX12_bound := goodIn_r _ [6] (by decide +kernel) (by decide +kernel)
set_option maxRecDepth 20000 in
theorem gX12_had_X12_bound : GoodIn wsX12_had (va_wsS RX12 121 yX12_bound wsX12_bound) := goodIn_app (goodIn_of _ (by decide +kernel)) ggX12_had_X12_bound
set_option maxRecDepth 20000 in
theorem ggX12_had_X12_no : GoodIn wsX12_had wsX12_no := goodIn_r _ [10, 11, 20, 21, 22, 23, 24, 25, 26, 27, 28, 29, 30, 31, 32, 33, 34, 35, 36, 37, 38, 39, 40, 41, 42, 43, 44, 45, 46, 47, 48, 49, 50, 51, 52, 53, 54, 55, 56, 57, 58, 59, 60, 61, 62, 63, 64, 65, 66, 67, 68, 69, 70, 71] (by decide +kernel) (by decide +kernel)
set_option maxRecDepth 20000 in
theorem gX12_had_X12_no : GoodIn wsX12_had (wsV RX12 128 RX12 yX12_no wsX12_no) := goodIn_app (goodIn_of _ (by decide +kernel)) ggX12_had_X12_no
set_option maxRecDepth 20000 in
theorem ggX12_had_X12_hadOf : GoodIn wsX12_had wsX12_hadOf := goodIn_r _ [15, 16, 2, 17, 18, 5, 19, 20, 21, 22, 23, 24, 25, 26, 27, 28, 29, 30, 31, 32, 33, 34, 35, 36, 37, 38, 39, 40, 41, 42, 43, 44, 45, 46, 47, 48, 49, 50, 51, 52, 53, 54, 55, 56, 57, 58, 59, 60, 61, 62, 63, 64, 65, 66, 67, 68, 69, 70, 71] (by decide +kernel) (by decide +kernel)
set_option maxRecDepth 20000 in
theorem gX12_had_X12_hadOf : GoodIn wsX12_had (wsV RX12 305 RX12 yX12_hadOf wsX12_hadOf) := goodIn_app (goodIn_of _ (by decide +kernel)) ggX12_had_X12_hadOf
theorem dX12_had_0 : decode cX12_had 0 = .ok (.iload_n 1, 1) := by decide +kernel
theorem dX12_had_1 : decode cX12_had 1 = .ok (.iconst 0, 1) := by decide +kernel
theorem dX12_had_2 : decode cX12_had 2 = .ok (.iconst 5, 1) := by decide +kernel
theorem dX12_had_3 : decode cX12_had 3 = .ok (.invokestatic 121, 3) := by decide +kernel
theorem dX12_had_6 : decode cX12_had 6 = .ok (.istore_n 3, 1) := by decide +kernel
theorem dX12_had_7 : decode cX12_had 7 = .ok (.iload_n 3, 1) := by decide +kernel
theorem dX12_had_8 : decode cX12_had 8 = .ok (.ifCond .eq 9, 3) := by decide +kernel
theorem dX12_had_11 : decode cX12_had 11 = .ok (.aload_n 0, 1) := by decide +kernel
theorem dX12_had_12 : decode cX12_had 12 = .ok (.iload_n 3, 1) := by decide +kernel
theorem dX12_had_13 : decode cX12_had 13 = .ok (.invokevirtual 128, 3) := by decide +kernel
theorem dX12_had_16 : decode cX12_had 16 = .ok (.ireturn, 1) := by decide +kernel
theorem dX12_had_17 : decode cX12_had 17 = .ok (.iload_n 2, 1) := by decide +kernel
theorem dX12_had_18 : decode cX12_had 18 = .ok (.ifCond .ge 9, 3) := by decide +kernel
theorem dX12_had_21 : decode cX12_had 21 = .ok (.aload_n 0, 1) := by decide +kernel
theorem dX12_had_22 : decode cX12_had 22 = .ok (.iconst (-1), 1) := by decide +kernel
theorem dX12_had_23 : decode cX12_had 23 = .ok (.invokevirtual 128, 3) := by decide +kernel
theorem dX12_had_26 : decode cX12_had 26 = .ok (.ireturn, 1) := by decide +kernel
theorem dX12_had_27 : decode cX12_had 27 = .ok (.iload_n 2, 1) := by decide +kernel
theorem dX12_had_28 : decode cX12_had 28 = .ok (.istore 4, 2) := by decide +kernel
theorem dX12_had_30 : decode cX12_had 30 = .ok (.iconst 0, 1) := by decide +kernel
theorem dX12_had_31 : decode cX12_had 31 = .ok (.istore 5, 2) := by decide +kernel
theorem dX12_had_33 : decode cX12_had 33 = .ok (.iconst 0, 1) := by decide +kernel
theorem dX12_had_34 : decode cX12_had 34 = .ok (.istore 6, 2) := by decide +kernel
theorem dX12_had_36 : decode cX12_had 36 = .ok (.iload 6, 2) := by decide +kernel
theorem dX12_had_38 : decode cX12_had 38 = .ok (.iload_n 1, 1) := by decide +kernel
theorem dX12_had_39 : decode cX12_had 39 = .ok (.if_icmp .ge 67, 3) := by decide +kernel
theorem dX12_had_42 : decode cX12_had 42 = .ok (.iload 4, 2) := by decide +kernel
theorem dX12_had_44 : decode cX12_had 44 = .ok (.bipush 10, 2) := by decide +kernel
theorem dX12_had_46 : decode cX12_had 46 = .ok (.irem, 1) := by decide +kernel
theorem dX12_had_47 : decode cX12_had 47 = .ok (.istore 7, 2) := by decide +kernel
theorem dX12_had_49 : decode cX12_had 49 = .ok (.iload 4, 2) := by decide +kernel
theorem dX12_had_51 : decode cX12_had 51 = .ok (.bipush 10, 2) := by decide +kernel
theorem dX12_had_53 : decode cX12_had 53 = .ok (.idiv, 1) := by decide +kernel
theorem dX12_had_54 : decode cX12_had 54 = .ok (.istore 4, 2) := by decide +kernel
theorem dX12_had_56 : decode cX12_had 56 = .ok (.iload 7, 2) := by decide +kernel
theorem dX12_had_58 : decode cX12_had 58 = .ok (.aload_n 0, 1) := by decide +kernel
theorem dX12_had_59 : decode cX12_had 59 = .ok (.getfield 299, 3) := by decide +kernel
theorem dX12_had_62 : decode cX12_had 62 = .ok (.if_icmp .ge 14, 3) := by decide +kernel
theorem dX12_had_65 : decode cX12_had 65 = .ok (.iload 5, 2) := by decide +kernel
theorem dX12_had_67 : decode cX12_had 67 = .ok (.iload 7, 2) := by decide +kernel
theorem dX12_had_69 : decode cX12_had 69 = .ok (.ishr, 1) := by decide +kernel
theorem dX12_had_70 : decode cX12_had 70 = .ok (.iconst 1, 1) := by decide +kernel
theorem dX12_had_71 : decode cX12_had 71 = .ok (.iand, 1) := by decide +kernel
theorem dX12_had_72 : decode cX12_had 72 = .ok (.iconst 1, 1) := by decide +kernel
theorem dX12_had_73 : decode cX12_had 73 = .ok (.if_icmp .ne 9, 3) := by decide +kernel
theorem dX12_had_76 : decode cX12_had 76 = .ok (.aload_n 0, 1) := by decide +kernel
theorem dX12_had_77 : decode cX12_had 77 = .ok (.iconst (-1), 1) := by decide +kernel
theorem dX12_had_78 : decode cX12_had 78 = .ok (.invokevirtual 128, 3) := by decide +kernel
theorem dX12_had_81 : decode cX12_had 81 = .ok (.ireturn, 1) := by decide +kernel
theorem dX12_had_82 : decode cX12_had 82 = .ok (.iload 5, 2) := by decide +kernel
theorem dX12_had_84 : decode cX12_had 84 = .ok (.iconst 1, 1) := by decide +kernel
theorem dX12_had_85 : decode cX12_had 85 = .ok (.iload 7, 2) := by decide +kernel
theorem dX12_had_87 : decode cX12_had 87 = .ok (.ishl, 1) := by decide +kernel
theorem dX12_had_88 : decode cX12_had 88 = .ok (.ior, 1) := by decide +kernel
theorem dX12_had_89 : decode cX12_had 89 = .ok (.istore 5, 2) := by decide +kernel
theorem dX12_had_91 : decode cX12_had 91 = .ok (.aload_n 0, 1) := by decide +kernel
theorem dX12_had_92 : decode cX12_had 92 = .ok (.getfield 99, 3) := by decide +kernel
theorem dX12_had_95 : decode cX12_had 95 = .ok (.iload 6, 2) := by decide +kernel
theorem dX12_had_97 : decode cX12_had 97 = .ok (.iload 7, 2) := by decide +kernel
theorem dX12_had_99 : decode cX12_had 99 = .ok (.iastore, 1) := by decide +kernel
theorem dX12_had_100 : decode cX12_had 100 = .ok (.iinc 6 1, 3) := by decide +kernel
theorem dX12_had_103 : decode cX12_had 103 = .ok (.goto (-67), 3) := by decide +kernel
theorem dX12_had_106 : decode cX12_had 106 = .ok (.aload_n 0, 1) := by decide +kernel
theorem dX12_had_107 : decode cX12_had 107 = .ok (.iload_n 1, 1) := by decide +kernel
theorem dX12_had_108 : decode cX12_had 108 = .ok (.invokevirtual 305, 3) := by decide +kernel
theorem dX12_had_111 : decode cX12_had 111 = .ok (.ireturn, 1) := by decide +kernel
theorem dX12_ordered_0 : decode cX12_ordered 0 = .ok (.iconst 0, 1) := by decide +kernel
theorem dX12_ordered_1 : decode cX12_ordered 1 = .ok (.istore_n 2, 1) := by decide +kernel
theorem dX12_ordered_2 : decode cX12_ordered 2 = .ok (.iload_n 1, 1) := by decide +kernel
theorem dX12_ordered_3 : decode cX12_ordered 3 = .ok (.istore_n 3, 1) := by decide +kernel
theorem dX12_ordered_4 : decode cX12_ordered 4 = .ok (.iconst 1, 1) := by decide +kernel
theorem dX12_ordered_5 : decode cX12_ordered 5 = .ok (.istore 4, 2) := by decide +kernel
theorem dX12_ordered_7 : decode cX12_ordered 7 = .ok (.iconst 2, 1) := by decide +kernel
theorem dX12_ordered_8 : decode cX12_ordered 8 = .ok (.istore 5, 2) := by decide +kernel
theorem dX12_ordered_10 : decode cX12_ordered 10 = .ok (.iload 5, 2) := by decide +kernel
theorem dX12_ordered_12 : decode cX12_ordered 12 = .ok (.aload_n 0, 1) := by decide +kernel
theorem dX12_ordered_13 : decode cX12_ordered 13 = .ok (.getfield 299, 3) := by decide +kernel
theorem dX12_ordered_16 : decode cX12_ordered 16 = .ok (.if_icmp .ge 16, 3) := by decide +kernel
theorem dX12_ordered_19 : decode cX12_ordered 19 = .ok (.iload 4, 2) := by decide +kernel
theorem dX12_ordered_21 : decode cX12_ordered 21 = .ok (.iload 5, 2) := by decide +kernel
theorem dX12_ordered_23 : decode cX12_ordered 23 = .ok (.imul, 1) := by decide +kernel
theorem dX12_ordered_24 : decode cX12_ordered 24 = .ok (.istore 4, 2) := by decide +kernel
theorem dX12_ordered_26 : decode cX12_ordered 26 = .ok (.iinc 5 1, 3) := by decide +kernel
theorem dX12_ordered_29 : decode cX12_ordered 29 = .ok (.goto (-19), 3) := by decide +kernel
theorem dX12_ordered_32 : decode cX12_ordered 32 = .ok (.iconst 0, 1) := by decide +kernel
theorem dX12_ordered_33 : decode cX12_ordered 33 = .ok (.istore 5, 2) := by decide +kernel
theorem dX12_ordered_35 : decode cX12_ordered 35 = .ok (.iload 5, 2) := by decide +kernel
theorem dX12_ordered_37 : decode cX12_ordered 37 = .ok (.aload_n 0, 1) := by decide +kernel
theorem dX12_ordered_38 : decode cX12_ordered 38 = .ok (.getfield 299, 3) := by decide +kernel
theorem dX12_ordered_41 : decode cX12_ordered 41 = .ok (.if_icmp .ge 105, 3) := by decide +kernel
theorem dX12_ordered_44 : decode cX12_ordered 44 = .ok (.iload_n 3, 1) := by decide +kernel
theorem dX12_ordered_45 : decode cX12_ordered 45 = .ok (.iload 4, 2) := by decide +kernel
theorem dX12_ordered_47 : decode cX12_ordered 47 = .ok (.idiv, 1) := by decide +kernel
theorem dX12_ordered_48 : decode cX12_ordered 48 = .ok (.istore 6, 2) := by decide +kernel
theorem dX12_ordered_50 : decode cX12_ordered 50 = .ok (.iload_n 3, 1) := by decide +kernel
theorem dX12_ordered_51 : decode cX12_ordered 51 = .ok (.iload 4, 2) := by decide +kernel
theorem dX12_ordered_53 : decode cX12_ordered 53 = .ok (.irem, 1) := by decide +kernel
theorem dX12_ordered_54 : decode cX12_ordered 54 = .ok (.istore_n 3, 1) := by decide +kernel
theorem dX12_ordered_55 : decode cX12_ordered 55 = .ok (.iconst 0, 1) := by decide +kernel
theorem dX12_ordered_56 : decode cX12_ordered 56 = .ok (.istore 7, 2) := by decide +kernel
theorem dX12_ordered_58 : decode cX12_ordered 58 = .ok (.iload_n 2, 1) := by decide +kernel
theorem dX12_ordered_59 : decode cX12_ordered 59 = .ok (.iload 7, 2) := by decide +kernel
theorem dX12_ordered_61 : decode cX12_ordered 61 = .ok (.ishr, 1) := by decide +kernel
theorem dX12_ordered_62 : decode cX12_ordered 62 = .ok (.iconst 1, 1) := by decide +kernel
theorem dX12_ordered_63 : decode cX12_ordered 63 = .ok (.iand, 1) := by decide +kernel
theorem dX12_ordered_64 : decode cX12_ordered 64 = .ok (.iconst 1, 1) := by decide +kernel
theorem dX12_ordered_65 : decode cX12_ordered 65 = .ok (.if_icmp .eq 8, 3) := by decide +kernel
theorem dX12_ordered_68 : decode cX12_ordered 68 = .ok (.iload 6, 2) := by decide +kernel
theorem dX12_ordered_70 : decode cX12_ordered 70 = .ok (.ifCond .le 28, 3) := by decide +kernel
theorem dX12_ordered_73 : decode cX12_ordered 73 = .ok (.iload 6, 2) := by decide +kernel
theorem dX12_ordered_75 : decode cX12_ordered 75 = .ok (.iload_n 2, 1) := by decide +kernel
theorem dX12_ordered_76 : decode cX12_ordered 76 = .ok (.iload 7, 2) := by decide +kernel
theorem dX12_ordered_78 : decode cX12_ordered 78 = .ok (.ishr, 1) := by decide +kernel
theorem dX12_ordered_79 : decode cX12_ordered 79 = .ok (.iconst 1, 1) := by decide +kernel
theorem dX12_ordered_80 : decode cX12_ordered 80 = .ok (.iand, 1) := by decide +kernel
theorem dX12_ordered_81 : decode cX12_ordered 81 = .ok (.ifCond .ne 7, 3) := by decide +kernel
theorem dX12_ordered_84 : decode cX12_ordered 84 = .ok (.iconst 1, 1) := by decide +kernel
theorem dX12_ordered_85 : decode cX12_ordered 85 = .ok (.goto 4, 3) := by decide +kernel
theorem dX12_ordered_88 : decode cX12_ordered 88 = .ok (.iconst 0, 1) := by decide +kernel
theorem dX12_ordered_89 : decode cX12_ordered 89 = .ok (.isub, 1) := by decide +kernel
theorem dX12_ordered_90 : decode cX12_ordered 90 = .ok (.istore 6, 2) := by decide +kernel
theorem dX12_ordered_92 : decode cX12_ordered 92 = .ok (.iinc 7 1, 3) := by decide +kernel
theorem dX12_ordered_95 : decode cX12_ordered 95 = .ok (.goto (-37), 3) := by decide +kernel
theorem dX12_ordered_98 : decode cX12_ordered 98 = .ok (.aload_n 0, 1) := by decide +kernel
theorem dX12_ordered_99 : decode cX12_ordered 99 = .ok (.getfield 99, 3) := by decide +kernel
theorem dX12_ordered_102 : decode cX12_ordered 102 = .ok (.iload 5, 2) := by decide +kernel
theorem dX12_ordered_104 : decode cX12_ordered 104 = .ok (.iload 7, 2) := by decide +kernel
theorem dX12_ordered_106 : decode cX12_ordered 106 = .ok (.iastore, 1) := by decide +kernel
theorem dX12_ordered_107 : decode cX12_ordered 107 = .ok (.iload_n 2, 1) := by decide +kernel
theorem dX12_ordered_108 : decode cX12_ordered 108 = .ok (.iconst 1, 1) := by decide +kernel
theorem dX12_ordered_109 : decode cX12_ordered 109 = .ok (.iload 7, 2) := by decide +kernel
theorem dX12_ordered_111 : decode cX12_ordered 111 = .ok (.ishl, 1) := by decide +kernel
theorem dX12_ordered_112 : decode cX12_ordered 112 = .ok (.ior, 1) := by decide +kernel
theorem dX12_ordered_113 : decode cX12_ordered 113 = .ok (.istore_n 2, 1) := by decide +kernel
theorem dX12_ordered_114 : decode cX12_ordered 114 = .ok (.aload_n 0, 1) := by decide +kernel
theorem dX12_ordered_115 : decode cX12_ordered 115 = .ok (.getfield 299, 3) := by decide +kernel
theorem dX12_ordered_118 : decode cX12_ordered 118 = .ok (.iconst 1, 1) := by decide +kernel
theorem dX12_ordered_119 : decode cX12_ordered 119 = .ok (.isub, 1) := by decide +kernel
theorem dX12_ordered_120 : decode cX12_ordered 120 = .ok (.iload 5, 2) := by decide +kernel
theorem dX12_ordered_122 : decode cX12_ordered 122 = .ok (.isub, 1) := by decide +kernel
theorem dX12_ordered_123 : decode cX12_ordered 123 = .ok (.ifCond .le 17, 3) := by decide +kernel
theorem dX12_ordered_126 : decode cX12_ordered 126 = .ok (.iload 4, 2) := by decide +kernel
theorem dX12_ordered_128 : decode cX12_ordered 128 = .ok (.aload_n 0, 1) := by decide +kernel
theorem dX12_ordered_129 : decode cX12_ordered 129 = .ok (.getfield 299, 3) := by decide +kernel
theorem dX12_ordered_132 : decode cX12_ordered 132 = .ok (.iconst 1, 1) := by decide +kernel
theorem dX12_ordered_133 : decode cX12_ordered 133 = .ok (.isub, 1) := by decide +kernel
theorem dX12_ordered_134 : decode cX12_ordered 134 = .ok (.iload 5, 2) := by decide +kernel
theorem dX12_ordered_136 : decode cX12_ordered 136 = .ok (.isub, 1) := by decide +kernel
theorem dX12_ordered_137 : decode cX12_ordered 137 = .ok (.idiv, 1) := by decide +kernel
theorem dX12_ordered_138 : decode cX12_ordered 138 = .ok (.istore 4, 2) := by decide +kernel
theorem dX12_ordered_140 : decode cX12_ordered 140 = .ok (.iinc 5 1, 3) := by decide +kernel
theorem dX12_ordered_143 : decode cX12_ordered 143 = .ok (.goto (-108), 3) := by decide +kernel
theorem dX12_ordered_146 : decode cX12_ordered 146 = .ok (.return_, 1) := by decide +kernel
set_option maxRecDepth 20000 in
theorem ggX12_best_X12_no : GoodIn wsX12_best wsX12_no := goodIn_r _ [8, 9, 22, 23, 24, 25, 26, 27, 28, 29, 30, 31, 32, 33, 34, 35, 36, 37, 38, 39, 40, 41, 42, 43, 44, 45, 46, 47, 48, 49, 50, 51, 52, 53, 54, 55, 56, 57, 58, 59, 60, 61, 62, 63, 64, 65, 66, 67, 68, 69, 70, 71, 72, 73] (by decide +kernel) (by decide +kernel)
set_option maxRecDepth 20000 in
theorem gX12_best_X12_no : GoodIn wsX12_best (wsV RX12 128 RX12 yX12_no wsX12_no) := goodIn_app (goodIn_of _ (by decide +kernel)) ggX12_best_X12_no
set_option maxRecDepth 20000 in
theorem ggX12_best_X12_ordered : GoodIn wsX12_best wsX12_ordered := goodIn_r _ [13, 1, 3, 22, 23, 24, 25, 26, 27, 28, 29, 30, 31, 32, 33, 34, 35, 36, 37, 38, 39, 40, 41, 42, 43, 44, 45, 46, 47, 48, 49, 50, 51, 52, 53, 54, 55, 56, 57, 58, 59, 60, 61, 62, 63, 64, 65, 66, 67, 68, 69, 70, 71, 72, 73] (by decide +kernel) (by decide +kernel)
set_option maxRecDepth 20000 in
theorem gX12_best_X12_ordered : GoodIn wsX12_best (wsV RX12 308 RX12 yX12_ordered wsX12_ordered) := goodIn_app (goodIn_of _ (by decide +kernel)) ggX12_best_X12_ordered
set_option maxRecDepth 20000 in
theorem ggX12_best_X12_hadOf : GoodIn wsX12_best wsX12_hadOf := goodIn_r _ [17, 18, 3, 19, 20, 7, 21, 22, 23, 24, 25, 26, 27, 28, 29, 30, 31, 32, 33, 34, 35, 36, 37, 38, 39, 40, 41, 42, 43, 44, 45, 46, 47, 48, 49, 50, 51, 52, 53, 54, 55, 56, 57, 58, 59, 60, 61, 62, 63, 64, 65, 66, 67, 68, 69, 70, 71, 72, 73] (by decide +kernel) (by decide +kernel)
set_option maxRecDepth 20000 in
theorem gX12_best_X12_hadOf : GoodIn wsX12_best (wsV RX12 305 RX12 yX12_hadOf wsX12_hadOf) := goodIn_app (goodIn_of _ (by decide +kernel)) ggX12_best_X12_hadOf
theorem dX12_best_0 : decode cX12_best 0 = .ok (.iload_n 2, 1) := by decide +kernel
theorem dX12_best_1 : decode cX12_best 1 = .ok (.iconst (-1), 1) := by decide +kernel
theorem dX12_best_2 : decode cX12_best 2 = .ok (.if_icmp .ge 10, 3) := by decide +kernel
theorem dX12_best_5 : decode cX12_best 5 = .ok (.aload_n 0, 1) := by decide +kernel
theorem dX12_best_6 : decode cX12_best 6 = .ok (.bipush (-4), 2) := by decide +kernel
theorem dX12_best_8 : decode cX12_best 8 = .ok (.invokevirtual 128, 3) := by decide +kernel
theorem dX12_best_11 : decode cX12_best 11 = .ok (.ireturn, 1) := by decide +kernel
theorem dX12_best_12 : decode cX12_best 12 = .ok (.iconst 1, 1) := by decide +kernel
theorem dX12_best_13 : decode cX12_best 13 = .ok (.istore_n 3, 1) := by decide +kernel
theorem dX12_best_14 : decode cX12_best 14 = .ok (.iconst 2, 1) := by decide +kernel
theorem dX12_best_15 : decode cX12_best 15 = .ok (.istore 4, 2) := by decide +kernel
theorem dX12_best_17 : decode cX12_best 17 = .ok (.iload 4, 2) := by decide +kernel
theorem dX12_best_19 : decode cX12_best 19 = .ok (.aload_n 0, 1) := by decide +kernel
theorem dX12_best_20 : decode cX12_best 20 = .ok (.getfield 299, 3) := by decide +kernel
theorem dX12_best_23 : decode cX12_best 23 = .ok (.if_icmp .gt 14, 3) := by decide +kernel
theorem dX12_best_26 : decode cX12_best 26 = .ok (.iload_n 3, 1) := by decide +kernel
theorem dX12_best_27 : decode cX12_best 27 = .ok (.iload 4, 2) := by decide +kernel
theorem dX12_best_29 : decode cX12_best 29 = .ok (.imul, 1) := by decide +kernel
theorem dX12_best_30 : decode cX12_best 30 = .ok (.istore_n 3, 1) := by decide +kernel
theorem dX12_best_31 : decode cX12_best 31 = .ok (.iinc 4 1, 3) := by decide +kernel
theorem dX12_best_34 : decode cX12_best 34 = .ok (.goto (-17), 3) := by decide +kernel
theorem dX12_best_37 : decode cX12_best 37 = .ok (.iconst 0, 1) := by decide +kernel
theorem dX12_best_38 : decode cX12_best 38 = .ok (.istore 4, 2) := by decide +kernel
theorem dX12_best_40 : decode cX12_best 40 = .ok (.iconst 0, 1) := by decide +kernel
theorem dX12_best_41 : decode cX12_best 41 = .ok (.istore 5, 2) := by decide +kernel
theorem dX12_best_43 : decode cX12_best 43 = .ok (.iload 5, 2) := by decide +kernel
theorem dX12_best_45 : decode cX12_best 45 = .ok (.iload_n 3, 1) := by decide +kernel
theorem dX12_best_46 : decode cX12_best 46 = .ok (.if_icmp .ge 90, 3) := by decide +kernel
theorem dX12_best_49 : decode cX12_best 49 = .ok (.aload_n 0, 1) := by decide +kernel
theorem dX12_best_50 : decode cX12_best 50 = .ok (.iload 5, 2) := by decide +kernel
theorem dX12_best_52 : decode cX12_best 52 = .ok (.invokevirtual 308, 3) := by decide +kernel
theorem dX12_best_55 : decode cX12_best 55 = .ok (.aload_n 0, 1) := by decide +kernel
theorem dX12_best_56 : decode cX12_best 56 = .ok (.aload_n 0, 1) := by decide +kernel
theorem dX12_best_57 : decode cX12_best 57 = .ok (.getfield 299, 3) := by decide +kernel
theorem dX12_best_60 : decode cX12_best 60 = .ok (.invokevirtual 305, 3) := by decide +kernel
theorem dX12_best_63 : decode cX12_best 63 = .ok (.istore 6, 2) := by decide +kernel
theorem dX12_best_65 : decode cX12_best 65 = .ok (.iload 5, 2) := by decide +kernel
theorem dX12_best_67 : decode cX12_best 67 = .ok (.ifCond .le 27, 3) := by decide +kernel
theorem dX12_best_70 : decode cX12_best 70 = .ok (.iload_n 1, 1) := by decide +kernel
theorem dX12_best_71 : decode cX12_best 71 = .ok (.ifCond .eq 13, 3) := by decide +kernel
theorem dX12_best_74 : decode cX12_best 74 = .ok (.iload 6, 2) := by decide +kernel
theorem dX12_best_76 : decode cX12_best 76 = .ok (.iload 4, 2) := by decide +kernel
theorem dX12_best_78 : decode cX12_best 78 = .ok (.if_icmp .gt 16, 3) := by decide +kernel
theorem dX12_best_81 : decode cX12_best 81 = .ok (.goto 49, 3) := by decide +kernel
theorem dX12_best_84 : decode cX12_best 84 = .ok (.iload 6, 2) := by decide +kernel
theorem dX12_best_86 : decode cX12_best 86 = .ok (.iload 4, 2) := by decide +kernel
theorem dX12_best_88 : decode cX12_best 88 = .ok (.if_icmp .lt 6, 3) := by decide +kernel
theorem dX12_best_91 : decode cX12_best 91 = .ok (.goto 39, 3) := by decide +kernel
theorem dX12_best_94 : decode cX12_best 94 = .ok (.iload 6, 2) := by decide +kernel
theorem dX12_best_96 : decode cX12_best 96 = .ok (.istore 4, 2) := by decide +kernel
theorem dX12_best_98 : decode cX12_best 98 = .ok (.iconst 0, 1) := by decide +kernel
theorem dX12_best_99 : decode cX12_best 99 = .ok (.istore 7, 2) := by decide +kernel
theorem dX12_best_101 : decode cX12_best 101 = .ok (.iload 7, 2) := by decide +kernel
theorem dX12_best_103 : decode cX12_best 103 = .ok (.aload_n 0, 1) := by decide +kernel
theorem dX12_best_104 : decode cX12_best 104 = .ok (.getfield 299, 3) := by decide +kernel
theorem dX12_best_107 : decode cX12_best 107 = .ok (.if_icmp .ge 23, 3) := by decide +kernel
theorem dX12_best_110 : decode cX12_best 110 = .ok (.aload_n 0, 1) := by decide +kernel
theorem dX12_best_111 : decode cX12_best 111 = .ok (.getfield 102, 3) := by decide +kernel
theorem dX12_best_114 : decode cX12_best 114 = .ok (.iload 7, 2) := by decide +kernel
theorem dX12_best_116 : decode cX12_best 116 = .ok (.aload_n 0, 1) := by decide +kernel
theorem dX12_best_117 : decode cX12_best 117 = .ok (.getfield 99, 3) := by decide +kernel
theorem dX12_best_120 : decode cX12_best 120 = .ok (.iload 7, 2) := by decide +kernel
theorem dX12_best_122 : decode cX12_best 122 = .ok (.iaload, 1) := by decide +kernel
theorem dX12_best_123 : decode cX12_best 123 = .ok (.iastore, 1) := by decide +kernel
theorem dX12_best_124 : decode cX12_best 124 = .ok (.iinc 7 1, 3) := by decide +kernel
theorem dX12_best_127 : decode cX12_best 127 = .ok (.goto (-26), 3) := by decide +kernel
theorem dX12_best_130 : decode cX12_best 130 = .ok (.iinc 5 1, 3) := by decide +kernel
theorem dX12_best_133 : decode cX12_best 133 = .ok (.goto (-90), 3) := by decide +kernel
theorem dX12_best_136 : decode cX12_best 136 = .ok (.iload_n 2, 1) := by decide +kernel
theorem dX12_best_137 : decode cX12_best 137 = .ok (.iconst (-1), 1) := by decide +kernel
theorem dX12_best_138 : decode cX12_best 138 = .ok (.if_icmp .ne 8, 3) := by decide +kernel
theorem dX12_best_141 : decode cX12_best 141 = .ok (.iload 4, 2) := by decide +kernel
theorem dX12_best_143 : decode cX12_best 143 = .ok (.goto 22, 3) := by decide +kernel
theorem dX12_best_146 : decode cX12_best 146 = .ok (.iload_n 2, 1) := by decide +kernel
theorem dX12_best_147 : decode cX12_best 147 = .ok (.aload_n 0, 1) := by decide +kernel
theorem dX12_best_148 : decode cX12_best 148 = .ok (.getfield 299, 3) := by decide +kernel
theorem dX12_best_151 : decode cX12_best 151 = .ok (.if_icmp .ge 12, 3) := by decide +kernel
theorem dX12_best_154 : decode cX12_best 154 = .ok (.aload_n 0, 1) := by decide +kernel
theorem dX12_best_155 : decode cX12_best 155 = .ok (.getfield 102, 3) := by decide +kernel
theorem dX12_best_158 : decode cX12_best 158 = .ok (.iload_n 2, 1) := by decide +kernel
theorem dX12_best_159 : decode cX12_best 159 = .ok (.iaload, 1) := by decide +kernel
theorem dX12_best_160 : decode cX12_best 160 = .ok (.goto 5, 3) := by decide +kernel
theorem dX12_best_163 : decode cX12_best 163 = .ok (.bipush (-9), 2) := by decide +kernel
theorem dX12_best_165 : decode cX12_best 165 = .ok (.ireturn, 1) := by decide +kernel
set_option maxRecDepth 20000 in
theorem ggX12_late_X12_best : GoodIn wsX12_late wsX12_best := goodIn_r _ [5, 6, 7, 8, 9, 10, 11, 4, 12, 13, 14, 15, 16, 17, 18, 19, 20, 21, 22, 23, 24, 25, 26, 27, 28, 29, 30, 31, 32, 33, 34, 35, 36, 37, 38, 39, 40, 41, 42, 43, 44, 45, 46, 47, 48, 49, 50, 51, 52, 53, 54, 55, 56, 57, 58, 59, 60, 61, 62, 63, 64, 65, 66, 67, 68, 69, 70, 71, 72, 73, 74, 75, 76, 77] (by decide +kernel) (by decide +kernel)
set_option maxRecDepth 20000 in
theorem gX12_late_X12_best : GoodIn wsX12_late (wsV RX12 311 RX12 yX12_best wsX12_best) := goodIn_app (goodIn_of _ (by decide +kernel)) ggX12_late_X12_best
theorem dX12_late_0 : decode cX12_late 0 = .ok (.aload_n 0, 1) := by decide +kernel
theorem dX12_late_1 : decode cX12_late 1 = .ok (.iconst 1, 1) := by decide +kernel
theorem dX12_late_2 : decode cX12_late 2 = .ok (.iload_n 1, 1) := by decide +kernel
theorem dX12_late_3 : decode cX12_late 3 = .ok (.invokevirtual 311, 3) := by decide +kernel
theorem dX12_late_6 : decode cX12_late 6 = .ok (.ireturn, 1) := by decide +kernel
set_option maxRecDepth 20000 in
theorem ggX12_soon_X12_best : GoodIn wsX12_soon wsX12_best := goodIn_r _ [5, 6, 7, 8, 9, 10, 11, 4, 12, 13, 14, 15, 16, 17, 18, 19, 20, 21, 22, 23, 24, 25, 26, 27, 28, 29, 30, 31, 32, 33, 34, 35, 36, 37, 38, 39, 40, 41, 42, 43, 44, 45, 46, 47, 48, 49, 50, 51, 52, 53, 54, 55, 56, 57, 58, 59, 60, 61, 62, 63, 64, 65, 66, 67, 68, 69, 70, 71, 72, 73, 74, 75, 76, 77] (by decide +kernel) (by decide +kernel)
set_option maxRecDepth 20000 in
theorem gX12_soon_X12_best : GoodIn wsX12_soon (wsV RX12 311 RX12 yX12_best wsX12_best) := goodIn_app (goodIn_of _ (by decide +kernel)) ggX12_soon_X12_best
theorem dX12_soon_0 : decode cX12_soon 0 = .ok (.aload_n 0, 1) := by decide +kernel
theorem dX12_soon_1 : decode cX12_soon 1 = .ok (.iconst 0, 1) := by decide +kernel
theorem dX12_soon_2 : decode cX12_soon 2 = .ok (.iload_n 1, 1) := by decide +kernel
theorem dX12_soon_3 : decode cX12_soon 3 = .ok (.invokevirtual 311, 3) := by decide +kernel
theorem dX12_soon_6 : decode cX12_soon 6 = .ok (.ireturn, 1) := by decide +kernel
set_option maxRecDepth 20000 in
theorem ggX12_drawn_X12_sumOf : GoodIn wsX12_drawn wsX12_sumOf := goodIn_r _ [12, 13, 6, 7, 14, 15, 16, 17, 18, 19, 20, 21, 22, 23, 24, 25, 26, 27, 28, 29, 30, 31, 32, 33, 34, 35, 36, 37, 38, 39, 40, 41, 42, 43, 44, 45, 46, 47, 48, 49, 50, 51, 52, 53, 54, 55, 56, 57, 58, 59, 60, 61, 62, 63, 64, 65] (by decide +kernel) (by decide +kernel)
set_option maxRecDepth 20000 in
theorem gX12_drawn_X12_sumOf : GoodIn wsX12_drawn (wsV RX12 198 RX12 yX12_sumOf wsX12_sumOf) := goodIn_app (goodIn_of _ (by decide +kernel)) ggX12_drawn_X12_sumOf
theorem dX12_drawn_0 : decode cX12_drawn 0 = .ok (.iconst 0, 1) := by decide +kernel
theorem dX12_drawn_1 : decode cX12_drawn 1 = .ok (.istore_n 1, 1) := by decide +kernel
theorem dX12_drawn_2 : decode cX12_drawn 2 = .ok (.aload_n 0, 1) := by decide +kernel
theorem dX12_drawn_3 : decode cX12_drawn 3 = .ok (.getfield 19, 3) := by decide +kernel
theorem dX12_drawn_6 : decode cX12_drawn 6 = .ok (.iload_n 1, 1) := by decide +kernel
theorem dX12_drawn_7 : decode cX12_drawn 7 = .ok (.iaload, 1) := by decide +kernel
theorem dX12_drawn_8 : decode cX12_drawn 8 = .ok (.ifCond .ne 96, 3) := by decide +kernel
theorem dX12_drawn_11 : decode cX12_drawn 11 = .ok (.aload_n 0, 1) := by decide +kernel
theorem dX12_drawn_12 : decode cX12_drawn 12 = .ok (.aload_n 0, 1) := by decide +kernel
theorem dX12_drawn_13 : decode cX12_drawn 13 = .ok (.getfield 315, 3) := by decide +kernel
theorem dX12_drawn_16 : decode cX12_drawn 16 = .ok (.ldc_w 318, 3) := by decide +kernel
theorem dX12_drawn_19 : decode cX12_drawn 19 = .ok (.imul, 1) := by decide +kernel
theorem dX12_drawn_20 : decode cX12_drawn 20 = .ok (.ldc_w 319, 3) := by decide +kernel
theorem dX12_drawn_23 : decode cX12_drawn 23 = .ok (.iadd, 1) := by decide +kernel
theorem dX12_drawn_24 : decode cX12_drawn 24 = .ok (.putfield 315, 3) := by decide +kernel
theorem dX12_drawn_27 : decode cX12_drawn 27 = .ok (.aload_n 0, 1) := by decide +kernel
theorem dX12_drawn_28 : decode cX12_drawn 28 = .ok (.getfield 315, 3) := by decide +kernel
theorem dX12_drawn_31 : decode cX12_drawn 31 = .ok (.ldc_w 320, 3) := by decide +kernel
theorem dX12_drawn_34 : decode cX12_drawn 34 = .ok (.iand, 1) := by decide +kernel
theorem dX12_drawn_35 : decode cX12_drawn 35 = .ok (.sipush 256, 3) := by decide +kernel
theorem dX12_drawn_38 : decode cX12_drawn 38 = .ok (.idiv, 1) := by decide +kernel
theorem dX12_drawn_39 : decode cX12_drawn 39 = .ok (.aload_n 0, 1) := by decide +kernel
theorem dX12_drawn_40 : decode cX12_drawn 40 = .ok (.iload_n 1, 1) := by decide +kernel
theorem dX12_drawn_41 : decode cX12_drawn 41 = .ok (.invokevirtual 198, 3) := by decide +kernel
theorem dX12_drawn_44 : decode cX12_drawn 44 = .ok (.irem, 1) := by decide +kernel
theorem dX12_drawn_45 : decode cX12_drawn 45 = .ok (.istore_n 2, 1) := by decide +kernel
theorem dX12_drawn_46 : decode cX12_drawn 46 = .ok (.iload_n 1, 1) := by decide +kernel
theorem dX12_drawn_47 : decode cX12_drawn 47 = .ok (.iconst 1, 1) := by decide +kernel
theorem dX12_drawn_48 : decode cX12_drawn 48 = .ok (.iadd, 1) := by decide +kernel
theorem dX12_drawn_49 : decode cX12_drawn 49 = .ok (.istore_n 3, 1) := by decide +kernel
theorem dX12_drawn_50 : decode cX12_drawn 50 = .ok (.aload_n 0, 1) := by decide +kernel
theorem dX12_drawn_51 : decode cX12_drawn 51 = .ok (.getfield 13, 3) := by decide +kernel
theorem dX12_drawn_54 : decode cX12_drawn 54 = .ok (.iload_n 3, 1) := by decide +kernel
theorem dX12_drawn_55 : decode cX12_drawn 55 = .ok (.iaload, 1) := by decide +kernel
theorem dX12_drawn_56 : decode cX12_drawn 56 = .ok (.iload_n 1, 1) := by decide +kernel
theorem dX12_drawn_57 : decode cX12_drawn 57 = .ok (.if_icmp .ne 13, 3) := by decide +kernel
theorem dX12_drawn_60 : decode cX12_drawn 60 = .ok (.iload_n 2, 1) := by decide +kernel
theorem dX12_drawn_61 : decode cX12_drawn 61 = .ok (.aload_n 0, 1) := by decide +kernel
theorem dX12_drawn_62 : decode cX12_drawn 62 = .ok (.getfield 16, 3) := by decide +kernel
theorem dX12_drawn_65 : decode cX12_drawn 65 = .ok (.iload_n 3, 1) := by decide +kernel
theorem dX12_drawn_66 : decode cX12_drawn 66 = .ok (.iaload, 1) := by decide +kernel
theorem dX12_drawn_67 : decode cX12_drawn 67 = .ok (.if_icmp .lt 32, 3) := by decide +kernel
theorem dX12_drawn_70 : decode cX12_drawn 70 = .ok (.iload_n 2, 1) := by decide +kernel
theorem dX12_drawn_71 : decode cX12_drawn 71 = .ok (.aload_n 0, 1) := by decide +kernel
theorem dX12_drawn_72 : decode cX12_drawn 72 = .ok (.getfield 13, 3) := by decide +kernel
theorem dX12_drawn_75 : decode cX12_drawn 75 = .ok (.iload_n 3, 1) := by decide +kernel
theorem dX12_drawn_76 : decode cX12_drawn 76 = .ok (.iaload, 1) := by decide +kernel
theorem dX12_drawn_77 : decode cX12_drawn 77 = .ok (.iload_n 1, 1) := by decide +kernel
theorem dX12_drawn_78 : decode cX12_drawn 78 = .ok (.if_icmp .ne 12, 3) := by decide +kernel
theorem dX12_drawn_81 : decode cX12_drawn 81 = .ok (.aload_n 0, 1) := by decide +kernel
theorem dX12_drawn_82 : decode cX12_drawn 82 = .ok (.getfield 16, 3) := by decide +kernel
theorem dX12_drawn_85 : decode cX12_drawn 85 = .ok (.iload_n 3, 1) := by decide +kernel
theorem dX12_drawn_86 : decode cX12_drawn 86 = .ok (.iaload, 1) := by decide +kernel
theorem dX12_drawn_87 : decode cX12_drawn 87 = .ok (.goto 4, 3) := by decide +kernel
theorem dX12_drawn_90 : decode cX12_drawn 90 = .ok (.iconst 0, 1) := by decide +kernel
theorem dX12_drawn_91 : decode cX12_drawn 91 = .ok (.isub, 1) := by decide +kernel
theorem dX12_drawn_92 : decode cX12_drawn 92 = .ok (.istore_n 2, 1) := by decide +kernel
theorem dX12_drawn_93 : decode cX12_drawn 93 = .ok (.iinc 3 1, 3) := by decide +kernel
theorem dX12_drawn_96 : decode cX12_drawn 96 = .ok (.goto (-46), 3) := by decide +kernel
theorem dX12_drawn_99 : decode cX12_drawn 99 = .ok (.iload_n 3, 1) := by decide +kernel
theorem dX12_drawn_100 : decode cX12_drawn 100 = .ok (.istore_n 1, 1) := by decide +kernel
theorem dX12_drawn_101 : decode cX12_drawn 101 = .ok (.goto (-99), 3) := by decide +kernel
theorem dX12_drawn_104 : decode cX12_drawn 104 = .ok (.iload_n 1, 1) := by decide +kernel
theorem dX12_drawn_105 : decode cX12_drawn 105 = .ok (.ireturn, 1) := by decide +kernel
set_option maxRecDepth 20000 in
theorem ggX12_evening_X12_isPlayer : GoodIn wsX12_evening wsX12_isPlayer := goodIn_r _ [7, 8, 126, 127, 128, 129, 130, 131, 132, 133, 134, 135, 136, 137, 138, 139, 140, 141, 142, 143, 144, 145, 146, 147, 148, 149, 150, 151, 152, 153, 154, 155, 156, 157, 158, 159, 160, 161, 162, 163, 164, 165, 166, 167, 168, 169, 170, 171, 172, 173, 174, 175, 176, 177] (by decide +kernel) (by decide +kernel)
set_option maxRecDepth 20000 in
theorem gX12_evening_X12_isPlayer : GoodIn wsX12_evening (wsV RX12 180 RX12 yX12_isPlayer wsX12_isPlayer) := goodIn_app (goodIn_of _ (by decide +kernel)) ggX12_evening_X12_isPlayer
set_option maxRecDepth 20000 in
theorem ggX12_evening_X12_lower : GoodIn wsX12_evening wsX12_lower := goodIn_r _ [12, 13, 14, 126, 127, 128, 129, 130, 131, 132, 133, 134, 135, 136, 137, 138, 139, 140, 141, 142, 143, 144, 145, 146, 147, 148, 149, 150, 151, 152, 153, 154, 155, 156, 157, 158, 159, 160, 161, 162, 163, 164, 165, 166, 167, 168, 169, 170, 171, 172, 173, 174, 175, 176, 177] (by decide +kernel) (by decide +kernel)
set_option maxRecDepth 20000 in
theorem gX12_evening_X12_lower : GoodIn wsX12_evening (wsV RX12 321 RX12 yX12_lower wsX12_lower) := goodIn_app (goodIn_of _ (by decide +kernel)) ggX12_evening_X12_lower
set_option maxRecDepth 20000 in
theorem ggX12_evening_X12_bound : GoodIn wsX12_evening wsX12_bound := goodIn_r _ [17] (by decide +kernel) (by decide +kernel)
set_option maxRecDepth 20000 in
theorem gX12_evening_X12_bound : GoodIn wsX12_evening (va_wsS RX12 121 yX12_bound wsX12_bound) := goodIn_app (goodIn_of _ (by decide +kernel)) ggX12_evening_X12_bound
set_option maxRecDepth 20000 in
theorem ggX12_evening_X12_isWhole : GoodIn wsX12_evening wsX12_isWhole := goodIn_r _ [21, 22, 23, 24, 25, 26, 6, 27, 28, 126, 127, 128, 129, 130, 131, 132, 133, 134, 135, 136, 137, 138, 139, 140, 141, 142, 143, 144, 145, 146, 147, 148, 149, 150, 151, 152, 153, 154, 155, 156, 157, 158, 159, 160, 161, 162, 163, 164, 165, 166, 167, 168, 169, 170, 171, 172, 173, 174, 175, 176, 177] (by decide +kernel) (by decide +kernel)
set_option maxRecDepth 20000 in
theorem gX12_evening_X12_isWhole : GoodIn wsX12_evening (wsV RX12 183 RX12 yX12_isWhole wsX12_isWhole) := goodIn_app (goodIn_of _ (by decide +kernel)) ggX12_evening_X12_isWhole
set_option maxRecDepth 20000 in
theorem ggX12_evening_X12_finds : GoodIn wsX12_evening wsX12_finds := goodIn_r _ [32, 33, 34, 35, 6, 36, 37, 22, 23, 38, 28, 39, 40, 41, 42, 43, 44, 45, 46, 47, 48, 49, 50, 51, 52, 53, 54, 55, 8, 56, 57, 58, 59, 60, 61, 62, 63, 64, 65, 66, 67, 68, 69, 70, 71, 72, 73, 74, 75, 76, 77, 78, 79, 80, 81, 82, 83, 84, 85, 86, 87, 88, 89, 90, 91, 92, 93, 94, 95, 96, 97, 98, 99, 126, 127, 128, 129, 130, 131, 132, 133, 134, 135, 136, 137, 138, 139, 140, 141, 142, 143, 144, 145, 146, 147, 148, 149, 150, 151, 152, 153, 154, 155, 156, 157, 158, 159, 160, 161, 162, 163, 164, 165, 166, 167, 168, 169, 170, 171, 172, 173, 174, 175, 176, 177] (by decide +kernel) (by decide +kernel)
set_option maxRecDepth 20000 in
theorem gX12_evening_X12_finds : GoodIn wsX12_evening (wsV RX12 247 RX12 yX12_finds wsX12_finds) := goodIn_app (goodIn_of _ (by decide +kernel)) ggX12_evening_X12_finds
set_option maxRecDepth 20000 in
theorem ggX12_evening_X12_drawn : GoodIn wsX12_evening wsX12_drawn := goodIn_r _ [103, 23, 1, 104, 105, 106, 28, 39, 41, 42, 43, 6, 44, 22, 126, 127, 128, 129, 130, 131, 132, 133, 134, 135, 136, 137, 138, 139, 140, 141, 142, 143, 144, 145, 146, 147, 148, 149, 150, 151, 152, 153, 154, 155, 156, 157, 158, 159, 160, 161, 162, 163, 164, 165, 166, 167, 168, 169, 170, 171, 172, 173, 174, 175, 176, 177] (by decide +kernel) (by decide +kernel)
set_option maxRecDepth 20000 in
theorem gX12_evening_X12_drawn : GoodIn wsX12_evening (wsV RX12 324 RX12 yX12_drawn wsX12_drawn) := goodIn_app (goodIn_of _ (by decide +kernel)) ggX12_evening_X12_drawn
set_option maxRecDepth 20000 in
theorem ggX12_evening_X12_runs : GoodIn wsX12_evening wsX12_runs := goodIn_r _ [110, 111, 112, 113, 114, 115, 2, 116, 77, 28, 117, 118, 119, 6, 120, 8, 61, 59, 121, 122, 123, 124, 125, 56, 23, 76, 126, 127, 128, 129, 130, 131, 132, 133, 134, 135, 136, 137, 138, 139, 140, 141, 142, 143, 144, 145, 146, 147, 148, 149, 150, 151, 152, 153, 154, 155, 156, 157, 158, 159, 160, 161, 162, 163, 164, 165, 166, 167, 168, 169, 170, 171, 172, 173, 174, 175, 176, 177] (by decide +kernel) (by decide +kernel)
set_option maxRecDepth 20000 in
theorem gX12_evening_X12_runs : GoodIn wsX12_evening (wsV RX12 271 RX12 yX12_runs wsX12_runs) := goodIn_app (goodIn_of _ (by decide +kernel)) ggX12_evening_X12_runs
theorem dX12_evening_0 : decode cX12_evening 0 = .ok (.aload_n 0, 1) := by decide +kernel
theorem dX12_evening_1 : decode cX12_evening 1 = .ok (.iload_n 3, 1) := by decide +kernel
theorem dX12_evening_2 : decode cX12_evening 2 = .ok (.invokevirtual 180, 3) := by decide +kernel
theorem dX12_evening_5 : decode cX12_evening 5 = .ok (.ifCond .ne 9, 3) := by decide +kernel
theorem dX12_evening_8 : decode cX12_evening 8 = .ok (.aload_n 0, 1) := by decide +kernel
theorem dX12_evening_9 : decode cX12_evening 9 = .ok (.iconst (-1), 1) := by decide +kernel
theorem dX12_evening_10 : decode cX12_evening 10 = .ok (.invokevirtual 321, 3) := by decide +kernel
theorem dX12_evening_13 : decode cX12_evening 13 = .ok (.ireturn, 1) := by decide +kernel
theorem dX12_evening_14 : decode cX12_evening 14 = .ok (.iload_n 1, 1) := by decide +kernel
theorem dX12_evening_15 : decode cX12_evening 15 = .ok (.iconst 1, 1) := by decide +kernel
theorem dX12_evening_16 : decode cX12_evening 16 = .ok (.bipush 20, 2) := by decide +kernel
theorem dX12_evening_18 : decode cX12_evening 18 = .ok (.invokestatic 121, 3) := by decide +kernel
theorem dX12_evening_21 : decode cX12_evening 21 = .ok (.istore 4, 2) := by decide +kernel
theorem dX12_evening_23 : decode cX12_evening 23 = .ok (.iload 4, 2) := by decide +kernel
