theorem dX7_two_177 : decode cX7_two 177 = .ok (.lload_n 1, 1) := by decide +kernel
theorem dX7_two_178 : decode cX7_two 178 = .ok (.lload_n 3, 1) := by decide +kernel
theorem dX7_two_179 : decode cX7_two 179 = .ok (.lor, 1) := by decide +kernel
theorem dX7_two_180 : decode cX7_two 180 = .ok (.lreturn, 1) := by decide +kernel
set_option maxRecDepth 20000 in
theorem ggX7_reckons_X7_part : GoodIn wsX7_reckons wsX7_part := goodIn_r _ [9, 10, 11, 12, 13, 14, 15, 16, 17, 8, 18, 19, 1, 20, 21, 22, 23, 24, 25, 26, 27, 28, 29, 30, 31, 32, 33, 34, 35, 36, 37, 38, 39, 40, 41, 53, 54, 55, 56, 57, 58, 59, 60, 61, 62, 63, 64, 65, 66, 67, 68, 69, 70, 71, 72, 73, 74, 75, 76, 77, 78, 79, 80, 81, 82, 83, 84, 85, 86, 87, 88, 89, 90, 91, 92, 93, 94, 95, 96, 97, 98, 99, 100, 101, 102, 103, 104, 105, 106, 107, 108, 109, 110, 111, 112, 113, 114, 115, 116, 117, 118, 119, 120, 121, 122, 123, 124, 125, 126, 127, 128, 129, 130, 131, 132, 133, 134, 135, 136, 137, 138, 139, 140, 141, 142, 143, 144] rfl (by decide +kernel)
set_option maxRecDepth 20000 in
theorem gX7_reckons_X7_part : GoodIn wsX7_reckons (wsV RX7 514 RX7 yX7_part wsX7_part) := goodIn_app (goodIn_of _ (by decide +kernel)) ggX7_reckons_X7_part
set_option maxRecDepth 20000 in
theorem ggX7_reckons_X7_two : GoodIn wsX7_reckons wsX7_two := goodIn_r _ [44, 45, 46, 8, 47, 48, 49, 50, 51, 52] rfl (by decide +kernel)
set_option maxRecDepth 20000 in
theorem gX7_reckons_X7_two : GoodIn wsX7_reckons (va_wsS RX7 518 yX7_two wsX7_two) := goodIn_app (goodIn_of _ (by decide +kernel)) ggX7_reckons_X7_two
theorem dX7_reckons_0 : decode cX7_reckons 0 = .ok (.iconst 0, 1) := by decide +kernel
theorem dX7_reckons_1 : decode cX7_reckons 1 = .ok (.istore_n 3, 1) := by decide +kernel
theorem dX7_reckons_2 : decode cX7_reckons 2 = .ok (.sipush 1600, 3) := by decide +kernel
theorem dX7_reckons_5 : decode cX7_reckons 5 = .ok (.aload_n 0, 1) := by decide +kernel
theorem dX7_reckons_6 : decode cX7_reckons 6 = .ok (.getfield 51, 3) := by decide +kernel
theorem dX7_reckons_9 : decode cX7_reckons 9 = .ok (.imul, 1) := by decide +kernel
theorem dX7_reckons_10 : decode cX7_reckons 10 = .ok (.iload_n 1, 1) := by decide +kernel
theorem dX7_reckons_11 : decode cX7_reckons 11 = .ok (.iadd, 1) := by decide +kernel
theorem dX7_reckons_12 : decode cX7_reckons 12 = .ok (.istore 4, 2) := by decide +kernel
theorem dX7_reckons_14 : decode cX7_reckons 14 = .ok (.iload 4, 2) := by decide +kernel
theorem dX7_reckons_16 : decode cX7_reckons 16 = .ok (.sipush 1600, 3) := by decide +kernel
theorem dX7_reckons_19 : decode cX7_reckons 19 = .ok (.aload_n 0, 1) := by decide +kernel
theorem dX7_reckons_20 : decode cX7_reckons 20 = .ok (.getfield 51, 3) := by decide +kernel
theorem dX7_reckons_23 : decode cX7_reckons 23 = .ok (.imul, 1) := by decide +kernel
theorem dX7_reckons_24 : decode cX7_reckons 24 = .ok (.iload_n 2, 1) := by decide +kernel
theorem dX7_reckons_25 : decode cX7_reckons 25 = .ok (.iadd, 1) := by decide +kernel
theorem dX7_reckons_26 : decode cX7_reckons 26 = .ok (.if_icmp .ge 108, 3) := by decide +kernel
theorem dX7_reckons_29 : decode cX7_reckons 29 = .ok (.aload_n 0, 1) := by decide +kernel
theorem dX7_reckons_30 : decode cX7_reckons 30 = .ok (.getfield 108, 3) := by decide +kernel
theorem dX7_reckons_33 : decode cX7_reckons 33 = .ok (.iload 4, 2) := by decide +kernel
theorem dX7_reckons_35 : decode cX7_reckons 35 = .ok (.iaload, 1) := by decide +kernel
theorem dX7_reckons_36 : decode cX7_reckons 36 = .ok (.istore 5, 2) := by decide +kernel
theorem dX7_reckons_38 : decode cX7_reckons 38 = .ok (.iload 5, 2) := by decide +kernel
theorem dX7_reckons_40 : decode cX7_reckons 40 = .ok (.bipush 9, 2) := by decide +kernel
theorem dX7_reckons_42 : decode cX7_reckons 42 = .ok (.if_icmp .gt 28, 3) := by decide +kernel
theorem dX7_reckons_45 : decode cX7_reckons 45 = .ok (.aload_n 0, 1) := by decide +kernel
theorem dX7_reckons_46 : decode cX7_reckons 46 = .ok (.getfield 198, 3) := by decide +kernel
theorem dX7_reckons_49 : decode cX7_reckons 49 = .ok (.iload_n 3, 1) := by decide +kernel
theorem dX7_reckons_50 : decode cX7_reckons 50 = .ok (.aload_n 0, 1) := by decide +kernel
theorem dX7_reckons_51 : decode cX7_reckons 51 = .ok (.iload 5, 2) := by decide +kernel
theorem dX7_reckons_53 : decode cX7_reckons 53 = .ok (.aload_n 0, 1) := by decide +kernel
theorem dX7_reckons_54 : decode cX7_reckons 54 = .ok (.getfield 111, 3) := by decide +kernel
theorem dX7_reckons_57 : decode cX7_reckons 57 = .ok (.iload 4, 2) := by decide +kernel
theorem dX7_reckons_59 : decode cX7_reckons 59 = .ok (.iaload, 1) := by decide +kernel
theorem dX7_reckons_60 : decode cX7_reckons 60 = .ok (.invokevirtual 514, 3) := by decide +kernel
theorem dX7_reckons_63 : decode cX7_reckons 63 = .ok (.lastore, 1) := by decide +kernel
theorem dX7_reckons_64 : decode cX7_reckons 64 = .ok (.iinc 3 1, 3) := by decide +kernel
theorem dX7_reckons_67 : decode cX7_reckons 67 = .ok (.goto 61, 3) := by decide +kernel
theorem dX7_reckons_70 : decode cX7_reckons 70 = .ok (.iload 5, 2) := by decide +kernel
theorem dX7_reckons_72 : decode cX7_reckons 72 = .ok (.bipush 22, 2) := by decide +kernel
theorem dX7_reckons_74 : decode cX7_reckons 74 = .ok (.if_icmp .ne 24, 3) := by decide +kernel
theorem dX7_reckons_77 : decode cX7_reckons 77 = .ok (.aload_n 0, 1) := by decide +kernel
theorem dX7_reckons_78 : decode cX7_reckons 78 = .ok (.getfield 198, 3) := by decide +kernel
theorem dX7_reckons_81 : decode cX7_reckons 81 = .ok (.iload_n 3, 1) := by decide +kernel
theorem dX7_reckons_82 : decode cX7_reckons 82 = .ok (.iconst 1, 1) := by decide +kernel
theorem dX7_reckons_83 : decode cX7_reckons 83 = .ok (.isub, 1) := by decide +kernel
theorem dX7_reckons_84 : decode cX7_reckons 84 = .ok (.lconst 1, 1) := by decide +kernel
theorem dX7_reckons_85 : decode cX7_reckons 85 = .ok (.aload_n 0, 1) := by decide +kernel
theorem dX7_reckons_86 : decode cX7_reckons 86 = .ok (.getfield 198, 3) := by decide +kernel
theorem dX7_reckons_89 : decode cX7_reckons 89 = .ok (.iload_n 3, 1) := by decide +kernel
theorem dX7_reckons_90 : decode cX7_reckons 90 = .ok (.iconst 1, 1) := by decide +kernel
theorem dX7_reckons_91 : decode cX7_reckons 91 = .ok (.isub, 1) := by decide +kernel
theorem dX7_reckons_92 : decode cX7_reckons 92 = .ok (.laload, 1) := by decide +kernel
theorem dX7_reckons_93 : decode cX7_reckons 93 = .ok (.lsub, 1) := by decide +kernel
theorem dX7_reckons_94 : decode cX7_reckons 94 = .ok (.lastore, 1) := by decide +kernel
theorem dX7_reckons_95 : decode cX7_reckons 95 = .ok (.goto 33, 3) := by decide +kernel
theorem dX7_reckons_98 : decode cX7_reckons 98 = .ok (.iinc 3 (-1), 3) := by decide +kernel
theorem dX7_reckons_101 : decode cX7_reckons 101 = .ok (.aload_n 0, 1) := by decide +kernel
theorem dX7_reckons_102 : decode cX7_reckons 102 = .ok (.getfield 198, 3) := by decide +kernel
theorem dX7_reckons_105 : decode cX7_reckons 105 = .ok (.iload_n 3, 1) := by decide +kernel
theorem dX7_reckons_106 : decode cX7_reckons 106 = .ok (.iconst 1, 1) := by decide +kernel
theorem dX7_reckons_107 : decode cX7_reckons 107 = .ok (.isub, 1) := by decide +kernel
theorem dX7_reckons_108 : decode cX7_reckons 108 = .ok (.iload 5, 2) := by decide +kernel
theorem dX7_reckons_110 : decode cX7_reckons 110 = .ok (.aload_n 0, 1) := by decide +kernel
theorem dX7_reckons_111 : decode cX7_reckons 111 = .ok (.getfield 198, 3) := by decide +kernel
theorem dX7_reckons_114 : decode cX7_reckons 114 = .ok (.iload_n 3, 1) := by decide +kernel
theorem dX7_reckons_115 : decode cX7_reckons 115 = .ok (.iconst 1, 1) := by decide +kernel
theorem dX7_reckons_116 : decode cX7_reckons 116 = .ok (.isub, 1) := by decide +kernel
theorem dX7_reckons_117 : decode cX7_reckons 117 = .ok (.laload, 1) := by decide +kernel
theorem dX7_reckons_118 : decode cX7_reckons 118 = .ok (.aload_n 0, 1) := by decide +kernel
theorem dX7_reckons_119 : decode cX7_reckons 119 = .ok (.getfield 198, 3) := by decide +kernel
theorem dX7_reckons_122 : decode cX7_reckons 122 = .ok (.iload_n 3, 1) := by decide +kernel
theorem dX7_reckons_123 : decode cX7_reckons 123 = .ok (.laload, 1) := by decide +kernel
theorem dX7_reckons_124 : decode cX7_reckons 124 = .ok (.invokestatic 518, 3) := by decide +kernel
theorem dX7_reckons_127 : decode cX7_reckons 127 = .ok (.lastore, 1) := by decide +kernel
theorem dX7_reckons_128 : decode cX7_reckons 128 = .ok (.iinc 4 1, 3) := by decide +kernel
theorem dX7_reckons_131 : decode cX7_reckons 131 = .ok (.goto (-117), 3) := by decide +kernel
theorem dX7_reckons_134 : decode cX7_reckons 134 = .ok (.aload_n 0, 1) := by decide +kernel
theorem dX7_reckons_135 : decode cX7_reckons 135 = .ok (.getfield 198, 3) := by decide +kernel
theorem dX7_reckons_138 : decode cX7_reckons 138 = .ok (.iconst 0, 1) := by decide +kernel
theorem dX7_reckons_139 : decode cX7_reckons 139 = .ok (.laload, 1) := by decide +kernel
theorem dX7_reckons_140 : decode cX7_reckons 140 = .ok (.lreturn, 1) := by decide +kernel
theorem dX7_between_0 : decode cX7_between 0 = .ok (.lload_n 0, 1) := by decide +kernel
theorem dX7_between_1 : decode cX7_between 1 = .ok (.iload_n 2, 1) := by decide +kernel
theorem dX7_between_2 : decode cX7_between 2 = .ok (.i2l, 1) := by decide +kernel
theorem dX7_between_3 : decode cX7_between 3 = .ok (.lcmp, 1) := by decide +kernel
theorem dX7_between_4 : decode cX7_between 4 = .ok (.ifCond .ge 7, 3) := by decide +kernel
theorem dX7_between_7 : decode cX7_between 7 = .ok (.iload_n 2, 1) := by decide +kernel
theorem dX7_between_8 : decode cX7_between 8 = .ok (.goto 16, 3) := by decide +kernel
theorem dX7_between_11 : decode cX7_between 11 = .ok (.lload_n 0, 1) := by decide +kernel
theorem dX7_between_12 : decode cX7_between 12 = .ok (.iload_n 3, 1) := by decide +kernel
theorem dX7_between_13 : decode cX7_between 13 = .ok (.i2l, 1) := by decide +kernel
theorem dX7_between_14 : decode cX7_between 14 = .ok (.lcmp, 1) := by decide +kernel
theorem dX7_between_15 : decode cX7_between 15 = .ok (.ifCond .le 7, 3) := by decide +kernel
theorem dX7_between_18 : decode cX7_between 18 = .ok (.iload_n 3, 1) := by decide +kernel
theorem dX7_between_19 : decode cX7_between 19 = .ok (.goto 5, 3) := by decide +kernel
theorem dX7_between_22 : decode cX7_between 22 = .ok (.lload_n 0, 1) := by decide +kernel
theorem dX7_between_23 : decode cX7_between 23 = .ok (.l2i, 1) := by decide +kernel
theorem dX7_between_24 : decode cX7_between 24 = .ok (.ireturn, 1) := by decide +kernel
theorem dX7_asks_0 : decode cX7_asks 0 = .ok (.aload_n 0, 1) := by decide +kernel
theorem dX7_asks_1 : decode cX7_asks 1 = .ok (.iload_n 1, 1) := by decide +kernel
theorem dX7_asks_2 : decode cX7_asks 2 = .ok (.putfield 201, 3) := by decide +kernel
theorem dX7_asks_5 : decode cX7_asks 5 = .ok (.aload_n 0, 1) := by decide +kernel
theorem dX7_asks_6 : decode cX7_asks 6 = .ok (.iload_n 2, 1) := by decide +kernel
theorem dX7_asks_7 : decode cX7_asks 7 = .ok (.putfield 204, 3) := by decide +kernel
theorem dX7_asks_10 : decode cX7_asks 10 = .ok (.aload_n 0, 1) := by decide +kernel
theorem dX7_asks_11 : decode cX7_asks 11 = .ok (.iload_n 3, 1) := by decide +kernel
theorem dX7_asks_12 : decode cX7_asks 12 = .ok (.putfield 207, 3) := by decide +kernel
theorem dX7_asks_15 : decode cX7_asks 15 = .ok (.aload_n 0, 1) := by decide +kernel
theorem dX7_asks_16 : decode cX7_asks 16 = .ok (.iload 4, 2) := by decide +kernel
theorem dX7_asks_18 : decode cX7_asks 18 = .ok (.putfield 210, 3) := by decide +kernel
theorem dX7_asks_21 : decode cX7_asks 21 = .ok (.return_, 1) := by decide +kernel
set_option maxRecDepth 20000 in
theorem ggX7_roomNow_X7_reckons : GoodIn wsX7_roomNow wsX7_reckons := goodIn_r _ [9, 3, 10, 11, 12, 13, 14, 15, 8, 16, 17, 18, 19, 20, 1, 21, 22, 23, 24, 25, 26, 27, 28, 29, 30, 31, 32, 33, 34, 35, 36, 37, 38, 39, 40, 41, 42, 43, 44, 45, 46, 47, 48, 49, 50, 51, 52, 53, 54, 55, 56, 57, 58, 62, 63, 64, 65, 66, 67, 68, 69, 70, 71, 72, 73, 74, 75, 76, 77, 78, 79, 80, 81, 82, 83, 84, 85, 86, 87, 88, 89, 90, 91, 92, 93, 94, 95, 96, 97, 98, 99, 100, 101, 102, 103, 104, 105, 106, 107, 108, 109, 110, 111, 112, 113, 114, 115, 116, 117, 118, 119, 120, 121, 122, 123, 124, 125, 126, 127, 128, 129, 130, 131, 132, 133, 134, 135, 136, 137, 138, 139, 140, 141, 142, 143, 144, 145, 146, 147, 148, 149, 150, 151, 152, 153] rfl (by decide +kernel)
set_option maxRecDepth 20000 in
theorem gX7_roomNow_X7_reckons : GoodIn wsX7_roomNow (wsV RX7 522 RX7 yX7_reckons wsX7_reckons) := goodIn_app (goodIn_of _ (by decide +kernel)) ggX7_roomNow_X7_reckons
set_option maxRecDepth 20000 in
theorem ggX7_roomNow_X7_between : GoodIn wsX7_roomNow wsX7_between := goodIn_r _ [61] rfl (by decide +kernel)
set_option maxRecDepth 20000 in
theorem gX7_roomNow_X7_between : GoodIn wsX7_roomNow (va_wsS RX7 525 yX7_between wsX7_between) := goodIn_app (goodIn_of _ (by decide +kernel)) ggX7_roomNow_X7_between
theorem dX7_roomNow_0 : decode cX7_roomNow 0 = .ok (.aload_n 0, 1) := by decide +kernel
theorem dX7_roomNow_1 : decode cX7_roomNow 1 = .ok (.iconst (-1), 1) := by decide +kernel
theorem dX7_roomNow_2 : decode cX7_roomNow 2 = .ok (.putfield 213, 3) := by decide +kernel
theorem dX7_roomNow_5 : decode cX7_roomNow 5 = .ok (.aload_n 0, 1) := by decide +kernel
theorem dX7_roomNow_6 : decode cX7_roomNow 6 = .ok (.getfield 90, 3) := by decide +kernel
theorem dX7_roomNow_9 : decode cX7_roomNow 9 = .ok (.aload_n 0, 1) := by decide +kernel
theorem dX7_roomNow_10 : decode cX7_roomNow 10 = .ok (.getfield 51, 3) := by decide +kernel
theorem dX7_roomNow_13 : decode cX7_roomNow 13 = .ok (.iaload, 1) := by decide +kernel
theorem dX7_roomNow_14 : decode cX7_roomNow 14 = .ok (.iconst (-1), 1) := by decide +kernel
theorem dX7_roomNow_15 : decode cX7_roomNow 15 = .ok (.if_icmp .ne 8, 3) := by decide +kernel
theorem dX7_roomNow_18 : decode cX7_roomNow 18 = .ok (.bipush 99, 2) := by decide +kernel
theorem dX7_roomNow_20 : decode cX7_roomNow 20 = .ok (.goto 31, 3) := by decide +kernel
theorem dX7_roomNow_23 : decode cX7_roomNow 23 = .ok (.aload_n 0, 1) := by decide +kernel
theorem dX7_roomNow_24 : decode cX7_roomNow 24 = .ok (.aload_n 0, 1) := by decide +kernel
theorem dX7_roomNow_25 : decode cX7_roomNow 25 = .ok (.getfield 90, 3) := by decide +kernel
theorem dX7_roomNow_28 : decode cX7_roomNow 28 = .ok (.aload_n 0, 1) := by decide +kernel
theorem dX7_roomNow_29 : decode cX7_roomNow 29 = .ok (.getfield 51, 3) := by decide +kernel
theorem dX7_roomNow_32 : decode cX7_roomNow 32 = .ok (.iaload, 1) := by decide +kernel
theorem dX7_roomNow_33 : decode cX7_roomNow 33 = .ok (.aload_n 0, 1) := by decide +kernel
theorem dX7_roomNow_34 : decode cX7_roomNow 34 = .ok (.getfield 93, 3) := by decide +kernel
theorem dX7_roomNow_37 : decode cX7_roomNow 37 = .ok (.aload_n 0, 1) := by decide +kernel
theorem dX7_roomNow_38 : decode cX7_roomNow 38 = .ok (.getfield 51, 3) := by decide +kernel
theorem dX7_roomNow_41 : decode cX7_roomNow 41 = .ok (.iaload, 1) := by decide +kernel
theorem dX7_roomNow_42 : decode cX7_roomNow 42 = .ok (.invokevirtual 522, 3) := by decide +kernel
theorem dX7_roomNow_45 : decode cX7_roomNow 45 = .ok (.iconst 0, 1) := by decide +kernel
theorem dX7_roomNow_46 : decode cX7_roomNow 46 = .ok (.bipush 99, 2) := by decide +kernel
theorem dX7_roomNow_48 : decode cX7_roomNow 48 = .ok (.invokestatic 525, 3) := by decide +kernel
theorem dX7_roomNow_51 : decode cX7_roomNow 51 = .ok (.ireturn, 1) := by decide +kernel
set_option maxRecDepth 20000 in
theorem ggX7_isContent_X7_reckons : GoodIn wsX7_isContent wsX7_reckons := goodIn_r _ [9, 3, 10, 11, 12, 13, 14, 15, 8, 16, 17, 18, 19, 20, 1, 21, 22, 23, 24, 25, 26, 27, 28, 29, 30, 31, 32, 33, 34, 35, 36, 37, 38, 39, 40, 41, 42, 43, 44, 45, 46, 47, 48, 49, 50, 51, 52, 53, 54, 55, 56, 57, 58, 59, 60, 61, 62, 63, 64, 65, 66, 67, 68, 69, 70, 71, 72, 73, 74, 75, 76, 77, 78, 79, 80, 81, 82, 83, 84, 85, 86, 87, 88, 89, 90, 91, 92, 93, 94, 95, 96, 97, 98, 99, 100, 101, 102, 103, 104, 105, 106, 107, 108, 109, 110, 111, 112, 113, 114, 115, 116, 117, 118, 119, 120, 121, 122, 123, 124, 125, 126, 127, 128, 129, 130, 131, 132, 133, 134, 135, 136, 137, 138, 139, 140, 141, 142, 143, 144, 145, 146, 147, 148, 149, 150] rfl (by decide +kernel)
set_option maxRecDepth 20000 in
theorem gX7_isContent_X7_reckons : GoodIn wsX7_isContent (wsV RX7 522 RX7 yX7_reckons wsX7_reckons) := goodIn_app (goodIn_of _ (by decide +kernel)) ggX7_isContent_X7_reckons
theorem dX7_isContent_0 : decode cX7_isContent 0 = .ok (.aload_n 0, 1) := by decide +kernel
theorem dX7_isContent_1 : decode cX7_isContent 1 = .ok (.iconst (-1), 1) := by decide +kernel
theorem dX7_isContent_2 : decode cX7_isContent 2 = .ok (.putfield 213, 3) := by decide +kernel
theorem dX7_isContent_5 : decode cX7_isContent 5 = .ok (.aload_n 0, 1) := by decide +kernel
theorem dX7_isContent_6 : decode cX7_isContent 6 = .ok (.getfield 96, 3) := by decide +kernel
theorem dX7_isContent_9 : decode cX7_isContent 9 = .ok (.aload_n 0, 1) := by decide +kernel
theorem dX7_isContent_10 : decode cX7_isContent 10 = .ok (.getfield 51, 3) := by decide +kernel
theorem dX7_isContent_13 : decode cX7_isContent 13 = .ok (.iaload, 1) := by decide +kernel
theorem dX7_isContent_14 : decode cX7_isContent 14 = .ok (.iconst (-1), 1) := by decide +kernel
theorem dX7_isContent_15 : decode cX7_isContent 15 = .ok (.if_icmp .eq 34, 3) := by decide +kernel
theorem dX7_isContent_18 : decode cX7_isContent 18 = .ok (.aload_n 0, 1) := by decide +kernel
theorem dX7_isContent_19 : decode cX7_isContent 19 = .ok (.aload_n 0, 1) := by decide +kernel
theorem dX7_isContent_20 : decode cX7_isContent 20 = .ok (.getfield 96, 3) := by decide +kernel
theorem dX7_isContent_23 : decode cX7_isContent 23 = .ok (.aload_n 0, 1) := by decide +kernel
theorem dX7_isContent_24 : decode cX7_isContent 24 = .ok (.getfield 51, 3) := by decide +kernel
theorem dX7_isContent_27 : decode cX7_isContent 27 = .ok (.iaload, 1) := by decide +kernel
theorem dX7_isContent_28 : decode cX7_isContent 28 = .ok (.aload_n 0, 1) := by decide +kernel
theorem dX7_isContent_29 : decode cX7_isContent 29 = .ok (.getfield 99, 3) := by decide +kernel
theorem dX7_isContent_32 : decode cX7_isContent 32 = .ok (.aload_n 0, 1) := by decide +kernel
theorem dX7_isContent_33 : decode cX7_isContent 33 = .ok (.getfield 51, 3) := by decide +kernel
theorem dX7_isContent_36 : decode cX7_isContent 36 = .ok (.iaload, 1) := by decide +kernel
theorem dX7_isContent_37 : decode cX7_isContent 37 = .ok (.invokevirtual 522, 3) := by decide +kernel
theorem dX7_isContent_40 : decode cX7_isContent 40 = .ok (.lconst 1, 1) := by decide +kernel
theorem dX7_isContent_41 : decode cX7_isContent 41 = .ok (.lcmp, 1) := by decide +kernel
theorem dX7_isContent_42 : decode cX7_isContent 42 = .ok (.ifCond .ne 7, 3) := by decide +kernel
theorem dX7_isContent_45 : decode cX7_isContent 45 = .ok (.iconst 1, 1) := by decide +kernel
theorem dX7_isContent_46 : decode cX7_isContent 46 = .ok (.goto 4, 3) := by decide +kernel
theorem dX7_isContent_49 : decode cX7_isContent 49 = .ok (.iconst 0, 1) := by decide +kernel
theorem dX7_isContent_50 : decode cX7_isContent 50 = .ok (.ireturn, 1) := by decide +kernel
set_option maxRecDepth 20000 in
theorem ggX7_darkBy_X7_reckons : GoodIn wsX7_darkBy wsX7_reckons := goodIn_r _ [9, 3, 10, 11, 12, 13, 14, 15, 8, 16, 17, 18, 19, 20, 1, 21, 22, 23, 24, 25, 26, 27, 28, 29, 30, 31, 32, 33, 34, 35, 36, 37, 38, 39, 40, 41, 42, 43, 44, 45, 46, 47, 48, 49, 50, 51, 52, 53, 54, 55, 56, 57, 58, 62, 63, 64, 65, 66, 67, 68, 69, 70, 71, 72, 73, 74, 75, 76, 77, 78, 79, 80, 81, 82, 83, 84, 85, 86, 87, 88, 89, 90, 91, 92, 93, 94, 95, 96, 97, 98, 99, 100, 101, 102, 103, 104, 105, 106, 107, 108, 109, 110, 111, 112, 113, 114, 115, 116, 117, 118, 119, 120, 121, 122, 123, 124, 125, 126, 127, 128, 129, 130, 131, 132, 133, 134, 135, 136, 137, 138, 139, 140, 141, 142, 143, 144, 145, 146, 147, 148, 149, 150, 151, 152, 153] rfl (by decide +kernel)
set_option maxRecDepth 20000 in
theorem gX7_darkBy_X7_reckons : GoodIn wsX7_darkBy (wsV RX7 522 RX7 yX7_reckons wsX7_reckons) := goodIn_app (goodIn_of _ (by decide +kernel)) ggX7_darkBy_X7_reckons
set_option maxRecDepth 20000 in
theorem ggX7_darkBy_X7_between : GoodIn wsX7_darkBy wsX7_between := goodIn_r _ [61] rfl (by decide +kernel)
set_option maxRecDepth 20000 in
theorem gX7_darkBy_X7_between : GoodIn wsX7_darkBy (va_wsS RX7 525 yX7_between wsX7_between) := goodIn_app (goodIn_of _ (by decide +kernel)) ggX7_darkBy_X7_between
theorem dX7_darkBy_0 : decode cX7_darkBy 0 = .ok (.aload_n 0, 1) := by decide +kernel
theorem dX7_darkBy_1 : decode cX7_darkBy 1 = .ok (.iload_n 1, 1) := by decide +kernel
theorem dX7_darkBy_2 : decode cX7_darkBy 2 = .ok (.putfield 213, 3) := by decide +kernel
theorem dX7_darkBy_5 : decode cX7_darkBy 5 = .ok (.aload_n 0, 1) := by decide +kernel
theorem dX7_darkBy_6 : decode cX7_darkBy 6 = .ok (.getfield 84, 3) := by decide +kernel
theorem dX7_darkBy_9 : decode cX7_darkBy 9 = .ok (.aload_n 0, 1) := by decide +kernel
theorem dX7_darkBy_10 : decode cX7_darkBy 10 = .ok (.getfield 51, 3) := by decide +kernel
theorem dX7_darkBy_13 : decode cX7_darkBy 13 = .ok (.iaload, 1) := by decide +kernel
theorem dX7_darkBy_14 : decode cX7_darkBy 14 = .ok (.iconst (-1), 1) := by decide +kernel
theorem dX7_darkBy_15 : decode cX7_darkBy 15 = .ok (.if_icmp .ne 7, 3) := by decide +kernel
theorem dX7_darkBy_18 : decode cX7_darkBy 18 = .ok (.iconst 0, 1) := by decide +kernel
theorem dX7_darkBy_19 : decode cX7_darkBy 19 = .ok (.goto 31, 3) := by decide +kernel
theorem dX7_darkBy_22 : decode cX7_darkBy 22 = .ok (.aload_n 0, 1) := by decide +kernel
theorem dX7_darkBy_23 : decode cX7_darkBy 23 = .ok (.aload_n 0, 1) := by decide +kernel
theorem dX7_darkBy_24 : decode cX7_darkBy 24 = .ok (.getfield 84, 3) := by decide +kernel
theorem dX7_darkBy_27 : decode cX7_darkBy 27 = .ok (.aload_n 0, 1) := by decide +kernel
theorem dX7_darkBy_28 : decode cX7_darkBy 28 = .ok (.getfield 51, 3) := by decide +kernel
theorem dX7_darkBy_31 : decode cX7_darkBy 31 = .ok (.iaload, 1) := by decide +kernel
theorem dX7_darkBy_32 : decode cX7_darkBy 32 = .ok (.aload_n 0, 1) := by decide +kernel
theorem dX7_darkBy_33 : decode cX7_darkBy 33 = .ok (.getfield 87, 3) := by decide +kernel
theorem dX7_darkBy_36 : decode cX7_darkBy 36 = .ok (.aload_n 0, 1) := by decide +kernel
theorem dX7_darkBy_37 : decode cX7_darkBy 37 = .ok (.getfield 51, 3) := by decide +kernel
theorem dX7_darkBy_40 : decode cX7_darkBy 40 = .ok (.iaload, 1) := by decide +kernel
theorem dX7_darkBy_41 : decode cX7_darkBy 41 = .ok (.invokevirtual 522, 3) := by decide +kernel
theorem dX7_darkBy_44 : decode cX7_darkBy 44 = .ok (.iconst 0, 1) := by decide +kernel
theorem dX7_darkBy_45 : decode cX7_darkBy 45 = .ok (.bipush 99, 2) := by decide +kernel
theorem dX7_darkBy_47 : decode cX7_darkBy 47 = .ok (.invokestatic 525, 3) := by decide +kernel
theorem dX7_darkBy_50 : decode cX7_darkBy 50 = .ok (.ireturn, 1) := by decide +kernel
set_option maxRecDepth 20000 in
theorem ggX7_whyNot_X7_givesOf : GoodIn wsX7_whyNot wsX7_givesOf := goodIn_r _ [9, 10, 1, 74, 75, 76, 77, 78, 79, 80, 81, 82, 83, 84, 85, 86, 87, 88, 89, 90, 91, 92, 93, 94, 95, 96, 97, 98, 99, 100, 101, 102, 103, 104, 105, 106, 107, 108, 109, 110, 111, 112, 113, 114, 115, 116, 117, 118, 119, 120, 121, 122, 123, 124, 125, 126, 127, 128, 129, 130, 131, 132, 133, 134, 135, 136, 137, 138, 139, 140, 141, 142, 143, 144, 145, 146, 147, 148, 149, 150, 151, 152, 153, 154, 155, 156, 157, 158, 159, 160, 161, 162, 163, 164, 165] rfl (by decide +kernel)
set_option maxRecDepth 20000 in
theorem gX7_whyNot_X7_givesOf : GoodIn wsX7_whyNot (wsV RX7 487 RX7 yX7_givesOf wsX7_givesOf) := goodIn_app (goodIn_of _ (by decide +kernel)) ggX7_whyNot_X7_givesOf
set_option maxRecDepth 20000 in
theorem ggX7_whyNot_X7_holds : GoodIn wsX7_whyNot wsX7_holds := goodIn_r _ [13] rfl (by decide +kernel)
set_option maxRecDepth 20000 in
theorem gX7_whyNot_X7_holds : GoodIn wsX7_whyNot (va_wsS RX7 483 yX7_holds wsX7_holds) := goodIn_app (goodIn_of _ (by decide +kernel)) ggX7_whyNot_X7_holds
set_option maxRecDepth 20000 in
theorem ggX7_whyNot_X7_wordsOf : GoodIn wsX7_whyNot wsX7_wordsOf := goodIn_r _ [17, 18, 1, 74, 75, 76, 77, 78, 79, 80, 81, 82, 83, 84, 85, 86, 87, 88, 89, 90, 91, 92, 93, 94, 95, 96, 97, 98, 99, 100, 101, 102, 103, 104, 105, 106, 107, 108, 109, 110, 111, 112, 113, 114, 115, 116, 117, 118, 119, 120, 121, 122, 123, 124, 125, 126, 127, 128, 129, 130, 131, 132, 133, 134, 135, 136, 137, 138, 139, 140, 141, 142, 143, 144, 145, 146, 147, 148, 149, 150, 151, 152, 153, 154, 155, 156, 157, 158, 159, 160, 161, 162, 163, 164, 165] rfl (by decide +kernel)
set_option maxRecDepth 20000 in
theorem gX7_whyNot_X7_wordsOf : GoodIn wsX7_whyNot (wsV RX7 496 RX7 yX7_wordsOf wsX7_wordsOf) := goodIn_app (goodIn_of _ (by decide +kernel)) ggX7_whyNot_X7_wordsOf
set_option maxRecDepth 20000 in
theorem ggX7_whyNot_X7_rhymeOf : GoodIn wsX7_whyNot wsX7_rhymeOf := goodIn_r _ [22, 23, 1, 5, 6, 7, 8, 9, 10, 74, 75, 76, 77, 78, 79, 80, 81, 82, 83, 84, 85, 86, 87, 88, 89, 90, 91, 92, 93, 94, 95, 96, 97, 98, 99, 100, 101, 102, 103, 104, 105, 106, 107, 108, 109, 110, 111, 112, 113, 114, 115, 116, 117, 118, 119, 120, 121, 122, 123, 124, 125, 126, 127, 128, 129, 130, 131, 132, 133, 134, 135, 136, 137, 138, 139, 140, 141, 142, 143, 144, 145, 146, 147, 148, 149, 150, 151, 152, 153, 154, 155, 156, 157, 158, 159, 160, 161, 162, 163, 164, 165] rfl (by decide +kernel)
set_option maxRecDepth 20000 in
theorem gX7_whyNot_X7_rhymeOf : GoodIn wsX7_whyNot (wsV RX7 499 RX7 yX7_rhymeOf wsX7_rhymeOf) := goodIn_app (goodIn_of _ (by decide +kernel)) ggX7_whyNot_X7_rhymeOf
set_option maxRecDepth 20000 in
theorem ggX7_whyNot_X7_roomNow : GoodIn wsX7_whyNot wsX7_roomNow := goodIn_r _ [27, 28, 29, 1, 30, 31, 32, 33, 8, 34, 35, 36, 37, 38, 39, 40, 41, 3, 42, 43, 44, 45, 46, 47, 48, 49, 50, 11, 12, 13, 51, 52, 53, 14, 15, 16, 17, 18, 19, 20, 21, 22, 23, 5, 6, 7, 9, 10, 54, 55, 56, 57, 58, 59, 60, 61, 62, 63, 64, 65, 66, 67, 74, 75, 76, 77, 78, 79, 80, 81, 82, 83, 84, 85, 86, 87, 88, 89, 90, 91, 92, 93, 94, 95, 96, 97, 98, 99, 100, 101, 102, 103, 104, 105, 106, 107, 108, 109, 110, 111, 112, 113, 114, 115, 116, 117, 118, 119, 120, 121, 122, 123, 124, 125, 126, 127, 128, 129, 130, 131, 132, 133, 134, 135, 136, 137, 138, 139, 140, 141, 142, 143, 144, 145, 146, 147, 148, 149, 150, 151, 152, 153, 154, 155, 156, 157, 158, 159, 160, 161, 162, 163, 164, 165] rfl (by decide +kernel)
set_option maxRecDepth 20000 in
theorem gX7_whyNot_X7_roomNow : GoodIn wsX7_whyNot (wsV RX7 529 RX7 yX7_roomNow wsX7_roomNow) := goodIn_app (goodIn_of _ (by decide +kernel)) ggX7_whyNot_X7_roomNow
set_option maxRecDepth 20000 in
theorem ggX7_whyNot_X7_isContent : GoodIn wsX7_whyNot wsX7_isContent := goodIn_r _ [71, 28, 72, 1, 73, 31, 32, 33, 8, 34, 35, 36, 37, 38, 39, 40, 41, 3, 42, 43, 44, 45, 46, 47, 48, 49, 50, 11, 12, 13, 51, 52, 53, 14, 15, 16, 17, 18, 19, 20, 21, 22, 23, 5, 6, 7, 9, 10, 54, 55, 56, 57, 58, 59, 60, 61, 62, 63, 64, 74, 75, 76, 77, 78, 79, 80, 81, 82, 83, 84, 85, 86, 87, 88, 89, 90, 91, 92, 93, 94, 95, 96, 97, 98, 99, 100, 101, 102, 103, 104, 105, 106, 107, 108, 109, 110, 111, 112, 113, 114, 115, 116, 117, 118, 119, 120, 121, 122, 123, 124, 125, 126, 127, 128, 129, 130, 131, 132, 133, 134, 135, 136, 137, 138, 139, 140, 141, 142, 143, 144, 145, 146, 147, 148, 149, 150, 151, 152, 153, 154, 155, 156, 157, 158, 159, 160, 161, 162, 163, 164, 165] rfl (by decide +kernel)
set_option maxRecDepth 20000 in
theorem gX7_whyNot_X7_isContent : GoodIn wsX7_whyNot (wsV RX7 532 RX7 yX7_isContent wsX7_isContent) := goodIn_app (goodIn_of _ (by decide +kernel)) ggX7_whyNot_X7_isContent
theorem dX7_whyNot_0 : decode cX7_whyNot 0 = .ok (.bipush 12, 2) := by decide +kernel
theorem dX7_whyNot_2 : decode cX7_whyNot 2 = .ok (.aload_n 0, 1) := by decide +kernel
theorem dX7_whyNot_3 : decode cX7_whyNot 3 = .ok (.getfield 51, 3) := by decide +kernel
theorem dX7_whyNot_6 : decode cX7_whyNot 6 = .ok (.imul, 1) := by decide +kernel
theorem dX7_whyNot_7 : decode cX7_whyNot 7 = .ok (.iload_n 1, 1) := by decide +kernel
theorem dX7_whyNot_8 : decode cX7_whyNot 8 = .ok (.iadd, 1) := by decide +kernel
theorem dX7_whyNot_9 : decode cX7_whyNot 9 = .ok (.istore_n 2, 1) := by decide +kernel
theorem dX7_whyNot_10 : decode cX7_whyNot 10 = .ok (.aload_n 0, 1) := by decide +kernel
theorem dX7_whyNot_11 : decode cX7_whyNot 11 = .ok (.getfield 75, 3) := by decide +kernel
theorem dX7_whyNot_14 : decode cX7_whyNot 14 = .ok (.iload_n 2, 1) := by decide +kernel
theorem dX7_whyNot_15 : decode cX7_whyNot 15 = .ok (.iaload, 1) := by decide +kernel
theorem dX7_whyNot_16 : decode cX7_whyNot 16 = .ok (.aload_n 0, 1) := by decide +kernel
theorem dX7_whyNot_17 : decode cX7_whyNot 17 = .ok (.getfield 201, 3) := by decide +kernel
theorem dX7_whyNot_20 : decode cX7_whyNot 20 = .ok (.iconst (-1), 1) := by decide +kernel
theorem dX7_whyNot_21 : decode cX7_whyNot 21 = .ok (.ixor, 1) := by decide +kernel
theorem dX7_whyNot_22 : decode cX7_whyNot 22 = .ok (.iand, 1) := by decide +kernel
theorem dX7_whyNot_23 : decode cX7_whyNot 23 = .ok (.ifCond .eq 5, 3) := by decide +kernel
theorem dX7_whyNot_26 : decode cX7_whyNot 26 = .ok (.iconst 1, 1) := by decide +kernel
theorem dX7_whyNot_27 : decode cX7_whyNot 27 = .ok (.ireturn, 1) := by decide +kernel
theorem dX7_whyNot_28 : decode cX7_whyNot 28 = .ok (.aload_n 0, 1) := by decide +kernel
theorem dX7_whyNot_29 : decode cX7_whyNot 29 = .ok (.getfield 78, 3) := by decide +kernel
theorem dX7_whyNot_32 : decode cX7_whyNot 32 = .ok (.iload_n 2, 1) := by decide +kernel
theorem dX7_whyNot_33 : decode cX7_whyNot 33 = .ok (.iaload, 1) := by decide +kernel
theorem dX7_whyNot_34 : decode cX7_whyNot 34 = .ok (.aload_n 0, 1) := by decide +kernel
theorem dX7_whyNot_35 : decode cX7_whyNot 35 = .ok (.getfield 201, 3) := by decide +kernel
theorem dX7_whyNot_38 : decode cX7_whyNot 38 = .ok (.iconst (-1), 1) := by decide +kernel
theorem dX7_whyNot_39 : decode cX7_whyNot 39 = .ok (.ixor, 1) := by decide +kernel
theorem dX7_whyNot_40 : decode cX7_whyNot 40 = .ok (.iand, 1) := by decide +kernel
theorem dX7_whyNot_41 : decode cX7_whyNot 41 = .ok (.ifCond .eq 5, 3) := by decide +kernel
theorem dX7_whyNot_44 : decode cX7_whyNot 44 = .ok (.iconst 2, 1) := by decide +kernel
theorem dX7_whyNot_45 : decode cX7_whyNot 45 = .ok (.ireturn, 1) := by decide +kernel
theorem dX7_whyNot_46 : decode cX7_whyNot 46 = .ok (.aload_n 0, 1) := by decide +kernel
theorem dX7_whyNot_47 : decode cX7_whyNot 47 = .ok (.getfield 201, 3) := by decide +kernel
theorem dX7_whyNot_50 : decode cX7_whyNot 50 = .ok (.aload_n 0, 1) := by decide +kernel
theorem dX7_whyNot_51 : decode cX7_whyNot 51 = .ok (.iload_n 1, 1) := by decide +kernel
theorem dX7_whyNot_52 : decode cX7_whyNot 52 = .ok (.invokevirtual 487, 3) := by decide +kernel
theorem dX7_whyNot_55 : decode cX7_whyNot 55 = .ok (.invokestatic 483, 3) := by decide +kernel
theorem dX7_whyNot_58 : decode cX7_whyNot 58 = .ok (.ifCond .eq 5, 3) := by decide +kernel
theorem dX7_whyNot_61 : decode cX7_whyNot 61 = .ok (.iconst 3, 1) := by decide +kernel
theorem dX7_whyNot_62 : decode cX7_whyNot 62 = .ok (.ireturn, 1) := by decide +kernel
theorem dX7_whyNot_63 : decode cX7_whyNot 63 = .ok (.aload_n 0, 1) := by decide +kernel
theorem dX7_whyNot_64 : decode cX7_whyNot 64 = .ok (.iload_n 1, 1) := by decide +kernel
theorem dX7_whyNot_65 : decode cX7_whyNot 65 = .ok (.invokevirtual 496, 3) := by decide +kernel
theorem dX7_whyNot_68 : decode cX7_whyNot 68 = .ok (.aload_n 0, 1) := by decide +kernel
theorem dX7_whyNot_69 : decode cX7_whyNot 69 = .ok (.iload_n 1, 1) := by decide +kernel
theorem dX7_whyNot_70 : decode cX7_whyNot 70 = .ok (.invokevirtual 499, 3) := by decide +kernel
theorem dX7_whyNot_73 : decode cX7_whyNot 73 = .ok (.iadd, 1) := by decide +kernel
theorem dX7_whyNot_74 : decode cX7_whyNot 74 = .ok (.aload_n 0, 1) := by decide +kernel
theorem dX7_whyNot_75 : decode cX7_whyNot 75 = .ok (.invokevirtual 529, 3) := by decide +kernel
theorem dX7_whyNot_78 : decode cX7_whyNot 78 = .ok (.if_icmp .le 5, 3) := by decide +kernel
theorem dX7_whyNot_81 : decode cX7_whyNot 81 = .ok (.iconst 4, 1) := by decide +kernel
theorem dX7_whyNot_82 : decode cX7_whyNot 82 = .ok (.ireturn, 1) := by decide +kernel
theorem dX7_whyNot_83 : decode cX7_whyNot 83 = .ok (.aload_n 0, 1) := by decide +kernel
theorem dX7_whyNot_84 : decode cX7_whyNot 84 = .ok (.invokevirtual 532, 3) := by decide +kernel
theorem dX7_whyNot_87 : decode cX7_whyNot 87 = .ok (.ifCond .eq 7, 3) := by decide +kernel
theorem dX7_whyNot_90 : decode cX7_whyNot 90 = .ok (.iconst 5, 1) := by decide +kernel
theorem dX7_whyNot_91 : decode cX7_whyNot 91 = .ok (.goto 4, 3) := by decide +kernel
theorem dX7_whyNot_94 : decode cX7_whyNot 94 = .ok (.iconst 0, 1) := by decide +kernel
theorem dX7_whyNot_95 : decode cX7_whyNot 95 = .ok (.ireturn, 1) := by decide +kernel
set_option maxRecDepth 20000 in
theorem ggX7_behind_X7_givesOf : GoodIn wsX7_behind wsX7_givesOf := goodIn_r _ [7, 8, 2, 9, 10, 11, 12, 13, 14, 15, 16, 17, 18, 19, 20, 21, 22, 23, 24, 25, 26, 27, 28, 29, 30, 31, 32, 33, 34, 35, 36, 37, 38, 39, 40, 41, 42, 43, 44, 45, 46, 47, 48, 49, 50, 51, 52, 53, 54, 55, 56, 57, 58, 59, 60, 61, 62, 63, 64, 65, 66, 67, 68, 69, 70, 71, 72, 73, 74, 75, 76, 77, 78, 79, 80, 81, 82, 83, 84, 85, 86, 87, 88, 89, 90, 91, 92, 93, 94, 95, 96, 97, 98, 99, 100] rfl (by decide +kernel)
set_option maxRecDepth 20000 in
theorem gX7_behind_X7_givesOf : GoodIn wsX7_behind (wsV RX7 487 RX7 yX7_givesOf wsX7_givesOf) := goodIn_app (goodIn_of _ (by decide +kernel)) ggX7_behind_X7_givesOf
theorem dX7_behind_0 : decode cX7_behind 0 = .ok (.iload_n 1, 1) := by decide +kernel
theorem dX7_behind_1 : decode cX7_behind 1 = .ok (.aload_n 0, 1) := by decide +kernel
theorem dX7_behind_2 : decode cX7_behind 2 = .ok (.getfield 78, 3) := by decide +kernel
theorem dX7_behind_5 : decode cX7_behind 5 = .ok (.bipush 12, 2) := by decide +kernel
theorem dX7_behind_7 : decode cX7_behind 7 = .ok (.aload_n 0, 1) := by decide +kernel
theorem dX7_behind_8 : decode cX7_behind 8 = .ok (.getfield 51, 3) := by decide +kernel
theorem dX7_behind_11 : decode cX7_behind 11 = .ok (.imul, 1) := by decide +kernel
theorem dX7_behind_12 : decode cX7_behind 12 = .ok (.iload_n 2, 1) := by decide +kernel
theorem dX7_behind_13 : decode cX7_behind 13 = .ok (.iadd, 1) := by decide +kernel
theorem dX7_behind_14 : decode cX7_behind 14 = .ok (.iaload, 1) := by decide +kernel
theorem dX7_behind_15 : decode cX7_behind 15 = .ok (.iconst (-1), 1) := by decide +kernel
theorem dX7_behind_16 : decode cX7_behind 16 = .ok (.ixor, 1) := by decide +kernel
theorem dX7_behind_17 : decode cX7_behind 17 = .ok (.iand, 1) := by decide +kernel
theorem dX7_behind_18 : decode cX7_behind 18 = .ok (.iconst 1, 1) := by decide +kernel
theorem dX7_behind_19 : decode cX7_behind 19 = .ok (.aload_n 0, 1) := by decide +kernel
theorem dX7_behind_20 : decode cX7_behind 20 = .ok (.iload_n 2, 1) := by decide +kernel
theorem dX7_behind_21 : decode cX7_behind 21 = .ok (.invokevirtual 487, 3) := by decide +kernel
theorem dX7_behind_24 : decode cX7_behind 24 = .ok (.ishl, 1) := by decide +kernel
theorem dX7_behind_25 : decode cX7_behind 25 = .ok (.ior, 1) := by decide +kernel
theorem dX7_behind_26 : decode cX7_behind 26 = .ok (.ireturn, 1) := by decide +kernel
set_option maxRecDepth 20000 in
theorem ggX7_asksLayer_X7_asks : GoodIn wsX7_asksLayer wsX7_asks := goodIn_r _ [9, 10, 11, 12, 13, 14, 15, 16, 17, 18, 19, 20, 21, 22, 23, 24, 25, 26, 27, 28, 29, 30, 31, 32, 33, 34, 35, 36, 37, 38, 39, 40, 41, 42, 43, 44, 45, 46, 47, 48, 49, 50, 51, 52, 53, 54, 55, 56, 57, 58, 59, 60, 61, 62, 63, 64, 65, 66, 67, 68, 69, 70, 71, 72, 73, 74, 75, 76, 77, 78, 79, 80, 81, 82, 83, 84, 85, 86, 87, 88, 89, 90, 91, 92, 93, 94, 95, 96, 97, 98, 99, 100, 101, 102, 103, 104, 105] rfl (by decide +kernel)
set_option maxRecDepth 20000 in
theorem gX7_asksLayer_X7_asks : GoodIn wsX7_asksLayer (wsV RX7 535 RX7 yX7_asks wsX7_asks) := goodIn_app (goodIn_of _ (by decide +kernel)) ggX7_asksLayer_X7_asks
theorem dX7_asksLayer_0 : decode cX7_asksLayer 0 = .ok (.aload_n 0, 1) := by decide +kernel
theorem dX7_asksLayer_1 : decode cX7_asksLayer 1 = .ok (.aload_n 0, 1) := by decide +kernel
theorem dX7_asksLayer_2 : decode cX7_asksLayer 2 = .ok (.getfield 162, 3) := by decide +kernel
theorem dX7_asksLayer_5 : decode cX7_asksLayer 5 = .ok (.iload_n 1, 1) := by decide +kernel
theorem dX7_asksLayer_6 : decode cX7_asksLayer 6 = .ok (.iaload, 1) := by decide +kernel
theorem dX7_asksLayer_7 : decode cX7_asksLayer 7 = .ok (.aload_n 0, 1) := by decide +kernel
theorem dX7_asksLayer_8 : decode cX7_asksLayer 8 = .ok (.getfield 165, 3) := by decide +kernel
theorem dX7_asksLayer_11 : decode cX7_asksLayer 11 = .ok (.iload_n 1, 1) := by decide +kernel
theorem dX7_asksLayer_12 : decode cX7_asksLayer 12 = .ok (.iaload, 1) := by decide +kernel
theorem dX7_asksLayer_13 : decode cX7_asksLayer 13 = .ok (.aload_n 0, 1) := by decide +kernel
theorem dX7_asksLayer_14 : decode cX7_asksLayer 14 = .ok (.getfield 168, 3) := by decide +kernel
theorem dX7_asksLayer_17 : decode cX7_asksLayer 17 = .ok (.iload_n 1, 1) := by decide +kernel
theorem dX7_asksLayer_18 : decode cX7_asksLayer 18 = .ok (.iaload, 1) := by decide +kernel
theorem dX7_asksLayer_19 : decode cX7_asksLayer 19 = .ok (.aload_n 0, 1) := by decide +kernel
theorem dX7_asksLayer_20 : decode cX7_asksLayer 20 = .ok (.getfield 171, 3) := by decide +kernel
theorem dX7_asksLayer_23 : decode cX7_asksLayer 23 = .ok (.iload_n 1, 1) := by decide +kernel
theorem dX7_asksLayer_24 : decode cX7_asksLayer 24 = .ok (.iaload, 1) := by decide +kernel
theorem dX7_asksLayer_25 : decode cX7_asksLayer 25 = .ok (.invokevirtual 535, 3) := by decide +kernel
theorem dX7_asksLayer_28 : decode cX7_asksLayer 28 = .ok (.return_, 1) := by decide +kernel
set_option maxRecDepth 20000 in
theorem ggX7_has_X7_asksLayer : GoodIn wsX7_has wsX7_asksLayer := goodIn_r _ [17, 4, 5, 6, 7, 18, 19, 20, 16, 21, 22, 23, 24, 25, 90, 91, 92, 93, 94, 95, 96, 97, 98, 99, 100, 101, 102, 103, 104, 105, 106, 107, 108, 109, 110, 111, 112, 113, 114, 115, 116, 117, 118, 119, 120, 121, 122, 123, 124, 125, 126, 127, 128, 129, 130, 131, 132, 133, 134, 135, 136, 137, 138, 139, 140, 141, 142, 143, 144, 145, 146, 147, 148, 149, 150, 151, 152, 153, 154, 155, 156, 157, 158, 159, 160, 161, 162, 163, 164, 165, 166, 167, 168, 169, 170, 171, 172, 173, 174, 175, 176, 177, 178, 179, 180, 181] rfl (by decide +kernel)
set_option maxRecDepth 20000 in
theorem gX7_has_X7_asksLayer : GoodIn wsX7_has (wsV RX7 539 RX7 yX7_asksLayer wsX7_asksLayer) := goodIn_app (goodIn_of _ (by decide +kernel)) ggX7_has_X7_asksLayer
set_option maxRecDepth 20000 in
theorem ggX7_has_X7_worthOf : GoodIn wsX7_has wsX7_worthOf := goodIn_r _ [29, 1, 2, 30, 31, 32, 16, 33, 90, 91, 92, 93, 94, 95, 96, 97, 98, 99, 100, 101, 102, 103, 104, 105, 106, 107, 108, 109, 110, 111, 112, 113, 114, 115, 116, 117, 118, 119, 120, 121, 122, 123, 124, 125, 126, 127, 128, 129, 130, 131, 132, 133, 134, 135, 136, 137, 138, 139, 140, 141, 142, 143, 144, 145, 146, 147, 148, 149, 150, 151, 152, 153, 154, 155, 156, 157, 158, 159, 160, 161, 162, 163, 164, 165, 166, 167, 168, 169, 170, 171, 172, 173, 174, 175, 176, 177, 178, 179, 180, 181] rfl (by decide +kernel)
set_option maxRecDepth 20000 in
theorem gX7_has_X7_worthOf : GoodIn wsX7_has (wsV RX7 490 RX7 yX7_worthOf wsX7_worthOf) := goodIn_app (goodIn_of _ (by decide +kernel)) ggX7_has_X7_worthOf
set_option maxRecDepth 20000 in
theorem ggX7_has_X7_roomNow : GoodIn wsX7_has wsX7_roomNow := goodIn_r _ [37, 38, 39, 2, 40, 41, 42, 43, 16, 44, 45, 46, 47, 48, 49, 50, 51, 22, 23, 24, 25, 26, 27, 28, 29, 1, 30, 31, 32, 33, 52, 53, 54, 55, 56, 57, 58, 59, 60, 61, 62, 63, 64, 65, 66, 67, 68, 69, 70, 71, 72, 73, 74, 75, 76, 77, 78, 79, 80, 81, 82, 83, 90, 91, 92, 93, 94, 95, 96, 97, 98, 99, 100, 101, 102, 103, 104, 105, 106, 107, 108, 109, 110, 111, 112, 113, 114, 115, 116, 117, 118, 119, 120, 121, 122, 123, 124, 125, 126, 127, 128, 129, 130, 131, 132, 133, 134, 135, 136, 137, 138, 139, 140, 141, 142, 143, 144, 145, 146, 147, 148, 149, 150, 151, 152, 153, 154, 155, 156, 157, 158, 159, 160, 161, 162, 163, 164, 165, 166, 167, 168, 169, 170, 171, 172, 173, 174, 175, 176, 177, 178, 179, 180, 181] rfl (by decide +kernel)
set_option maxRecDepth 20000 in
theorem gX7_has_X7_roomNow : GoodIn wsX7_has (wsV RX7 529 RX7 yX7_roomNow wsX7_roomNow) := goodIn_app (goodIn_of _ (by decide +kernel)) ggX7_has_X7_roomNow
set_option maxRecDepth 20000 in
theorem ggX7_has_X7_isContent : GoodIn wsX7_has wsX7_isContent := goodIn_r _ [87, 38, 88, 2, 89, 41, 42, 43, 16, 44, 45, 46, 47, 48, 49, 50, 51, 22, 23, 24, 25, 26, 27, 28, 29, 1, 30, 31, 32, 33, 52, 53, 54, 55, 56, 57, 58, 59, 60, 61, 62, 63, 64, 65, 66, 67, 68, 69, 70, 71, 72, 73, 74, 75, 76, 77, 78, 79, 80, 90, 91, 92, 93, 94, 95, 96, 97, 98, 99, 100, 101, 102, 103, 104, 105, 106, 107, 108, 109, 110, 111, 112, 113, 114, 115, 116, 117, 118, 119, 120, 121, 122, 123, 124, 125, 126, 127, 128, 129, 130, 131, 132, 133, 134, 135, 136, 137, 138, 139, 140, 141, 142, 143, 144, 145, 146, 147, 148, 149, 150, 151, 152, 153, 154, 155, 156, 157, 158, 159, 160, 161, 162, 163, 164, 165, 166, 167, 168, 169, 170, 171, 172, 173, 174, 175, 176, 177, 178, 179, 180, 181] rfl (by decide +kernel)
set_option maxRecDepth 20000 in
theorem gX7_has_X7_isContent : GoodIn wsX7_has (wsV RX7 532 RX7 yX7_isContent wsX7_isContent) := goodIn_app (goodIn_of _ (by decide +kernel)) ggX7_has_X7_isContent
theorem dX7_has_0 : decode cX7_has 0 = .ok (.aload_n 0, 1) := by decide +kernel
theorem dX7_has_1 : decode cX7_has 1 = .ok (.iconst 0, 1) := by decide +kernel
theorem dX7_has_2 : decode cX7_has 2 = .ok (.invokevirtual 539, 3) := by decide +kernel
theorem dX7_has_5 : decode cX7_has 5 = .ok (.iload_n 1, 1) := by decide +kernel
theorem dX7_has_6 : decode cX7_has 6 = .ok (.tableswitch 185 0 13 #[70, 80, 90, 97, 108, 115, 122, 129, 134, 147, 157, 167, 174, 179], 70) := by decide +kernel
theorem dX7_has_76 : decode cX7_has 76 = .ok (.aload_n 0, 1) := by decide +kernel
theorem dX7_has_77 : decode cX7_has 77 = .ok (.getfield 54, 3) := by decide +kernel
theorem dX7_has_80 : decode cX7_has 80 = .ok (.aload_n 0, 1) := by decide +kernel
theorem dX7_has_81 : decode cX7_has 81 = .ok (.getfield 51, 3) := by decide +kernel
theorem dX7_has_84 : decode cX7_has 84 = .ok (.iaload, 1) := by decide +kernel
theorem dX7_has_85 : decode cX7_has 85 = .ok (.ireturn, 1) := by decide +kernel
theorem dX7_has_86 : decode cX7_has 86 = .ok (.aload_n 0, 1) := by decide +kernel
theorem dX7_has_87 : decode cX7_has 87 = .ok (.getfield 66, 3) := by decide +kernel
theorem dX7_has_90 : decode cX7_has 90 = .ok (.aload_n 0, 1) := by decide +kernel
theorem dX7_has_91 : decode cX7_has 91 = .ok (.getfield 51, 3) := by decide +kernel
theorem dX7_has_94 : decode cX7_has 94 = .ok (.iaload, 1) := by decide +kernel
theorem dX7_has_95 : decode cX7_has 95 = .ok (.ireturn, 1) := by decide +kernel
theorem dX7_has_96 : decode cX7_has 96 = .ok (.aload_n 0, 1) := by decide +kernel
theorem dX7_has_97 : decode cX7_has 97 = .ok (.getfield 162, 3) := by decide +kernel
theorem dX7_has_100 : decode cX7_has 100 = .ok (.iconst 0, 1) := by decide +kernel
theorem dX7_has_101 : decode cX7_has 101 = .ok (.iaload, 1) := by decide +kernel
theorem dX7_has_102 : decode cX7_has 102 = .ok (.ireturn, 1) := by decide +kernel
theorem dX7_has_103 : decode cX7_has 103 = .ok (.aload_n 0, 1) := by decide +kernel
theorem dX7_has_104 : decode cX7_has 104 = .ok (.aload_n 0, 1) := by decide +kernel
theorem dX7_has_105 : decode cX7_has 105 = .ok (.getfield 162, 3) := by decide +kernel
theorem dX7_has_108 : decode cX7_has 108 = .ok (.iconst 0, 1) := by decide +kernel
theorem dX7_has_109 : decode cX7_has 109 = .ok (.iaload, 1) := by decide +kernel
theorem dX7_has_110 : decode cX7_has 110 = .ok (.invokevirtual 490, 3) := by decide +kernel
theorem dX7_has_113 : decode cX7_has 113 = .ok (.ireturn, 1) := by decide +kernel
theorem dX7_has_114 : decode cX7_has 114 = .ok (.aload_n 0, 1) := by decide +kernel
theorem dX7_has_115 : decode cX7_has 115 = .ok (.getfield 165, 3) := by decide +kernel
theorem dX7_has_118 : decode cX7_has 118 = .ok (.iconst 0, 1) := by decide +kernel
theorem dX7_has_119 : decode cX7_has 119 = .ok (.iaload, 1) := by decide +kernel
theorem dX7_has_120 : decode cX7_has 120 = .ok (.ireturn, 1) := by decide +kernel
theorem dX7_has_121 : decode cX7_has 121 = .ok (.aload_n 0, 1) := by decide +kernel
theorem dX7_has_122 : decode cX7_has 122 = .ok (.getfield 168, 3) := by decide +kernel
theorem dX7_has_125 : decode cX7_has 125 = .ok (.iconst 0, 1) := by decide +kernel
theorem dX7_has_126 : decode cX7_has 126 = .ok (.iaload, 1) := by decide +kernel
theorem dX7_has_127 : decode cX7_has 127 = .ok (.ireturn, 1) := by decide +kernel
theorem dX7_has_128 : decode cX7_has 128 = .ok (.aload_n 0, 1) := by decide +kernel
theorem dX7_has_129 : decode cX7_has 129 = .ok (.getfield 171, 3) := by decide +kernel
theorem dX7_has_132 : decode cX7_has 132 = .ok (.iconst 0, 1) := by decide +kernel
theorem dX7_has_133 : decode cX7_has 133 = .ok (.iaload, 1) := by decide +kernel
theorem dX7_has_134 : decode cX7_has 134 = .ok (.ireturn, 1) := by decide +kernel
theorem dX7_has_135 : decode cX7_has 135 = .ok (.aload_n 0, 1) := by decide +kernel
theorem dX7_has_136 : decode cX7_has 136 = .ok (.invokevirtual 529, 3) := by decide +kernel
theorem dX7_has_139 : decode cX7_has 139 = .ok (.ireturn, 1) := by decide +kernel
theorem dX7_has_140 : decode cX7_has 140 = .ok (.aload_n 0, 1) := by decide +kernel
theorem dX7_has_141 : decode cX7_has 141 = .ok (.invokevirtual 532, 3) := by decide +kernel
theorem dX7_has_144 : decode cX7_has 144 = .ok (.ifCond .eq 7, 3) := by decide +kernel
theorem dX7_has_147 : decode cX7_has 147 = .ok (.iconst 1, 1) := by decide +kernel
theorem dX7_has_148 : decode cX7_has 148 = .ok (.goto 4, 3) := by decide +kernel
theorem dX7_has_151 : decode cX7_has 151 = .ok (.iconst 0, 1) := by decide +kernel
theorem dX7_has_152 : decode cX7_has 152 = .ok (.ireturn, 1) := by decide +kernel
theorem dX7_has_153 : decode cX7_has 153 = .ok (.aload_n 0, 1) := by decide +kernel
theorem dX7_has_154 : decode cX7_has 154 = .ok (.getfield 102, 3) := by decide +kernel
theorem dX7_has_157 : decode cX7_has 157 = .ok (.aload_n 0, 1) := by decide +kernel
theorem dX7_has_158 : decode cX7_has 158 = .ok (.getfield 51, 3) := by decide +kernel
theorem dX7_has_161 : decode cX7_has 161 = .ok (.iaload, 1) := by decide +kernel
theorem dX7_has_162 : decode cX7_has 162 = .ok (.ireturn, 1) := by decide +kernel
theorem dX7_has_163 : decode cX7_has 163 = .ok (.aload_n 0, 1) := by decide +kernel
theorem dX7_has_164 : decode cX7_has 164 = .ok (.getfield 105, 3) := by decide +kernel
theorem dX7_has_167 : decode cX7_has 167 = .ok (.aload_n 0, 1) := by decide +kernel
theorem dX7_has_168 : decode cX7_has 168 = .ok (.getfield 51, 3) := by decide +kernel
theorem dX7_has_171 : decode cX7_has 171 = .ok (.iaload, 1) := by decide +kernel
theorem dX7_has_172 : decode cX7_has 172 = .ok (.ireturn, 1) := by decide +kernel
theorem dX7_has_173 : decode cX7_has 173 = .ok (.aload_n 0, 1) := by decide +kernel
theorem dX7_has_174 : decode cX7_has 174 = .ok (.getfield 174, 3) := by decide +kernel
theorem dX7_has_177 : decode cX7_has 177 = .ok (.iconst 0, 1) := by decide +kernel
theorem dX7_has_178 : decode cX7_has 178 = .ok (.iaload, 1) := by decide +kernel
theorem dX7_has_179 : decode cX7_has 179 = .ok (.ireturn, 1) := by decide +kernel
theorem dX7_has_180 : decode cX7_has 180 = .ok (.aload_n 0, 1) := by decide +kernel
theorem dX7_has_181 : decode cX7_has 181 = .ok (.getfield 192, 3) := by decide +kernel
theorem dX7_has_184 : decode cX7_has 184 = .ok (.ireturn, 1) := by decide +kernel
theorem dX7_has_185 : decode cX7_has 185 = .ok (.aload_n 0, 1) := by decide +kernel
theorem dX7_has_186 : decode cX7_has 186 = .ok (.getfield 195, 3) := by decide +kernel
theorem dX7_has_189 : decode cX7_has 189 = .ok (.l2i, 1) := by decide +kernel
theorem dX7_has_190 : decode cX7_has 190 = .ok (.ireturn, 1) := by decide +kernel
theorem dX7_has_191 : decode cX7_has 191 = .ok (.iconst (-1), 1) := by decide +kernel
theorem dX7_has_192 : decode cX7_has 192 = .ok (.ireturn, 1) := by decide +kernel
set_option maxRecDepth 20000 in
theorem ggX7_letter_X7_is : GoodIn wsX7_letter wsX7_is := goodIn_r _ [6] rfl (by decide +kernel)
set_option maxRecDepth 20000 in
theorem gX7_letter_X7_is : GoodIn wsX7_letter (va_wsS RX7 381 yX7_is wsX7_is) := goodIn_app (goodIn_of _ (by decide +kernel)) ggX7_letter_X7_is
set_option maxRecDepth 20000 in
theorem ggX7_letter_X7_manyOf : GoodIn wsX7_letter wsX7_manyOf := goodIn_r _ [10, 11, 12, 19, 20, 21, 22, 23, 24, 25, 26, 27, 28, 29, 30, 31, 32, 33, 34, 35, 36, 37, 38, 39, 40, 41, 42, 43, 44, 45, 46, 47, 48, 49, 50, 51, 52, 53, 54, 55, 56, 57, 58, 59, 60, 61, 62, 63, 64, 65, 66, 67, 68, 69, 70, 71, 72, 73, 74, 75, 76, 77, 78, 79, 80, 81, 82, 83, 84, 85, 86, 87, 88, 89, 90, 91, 92, 93, 94, 95, 96, 97, 98, 99, 100, 101, 102, 103, 104, 105, 106, 107, 108, 109, 110] rfl (by decide +kernel)
set_option maxRecDepth 20000 in
theorem gX7_letter_X7_manyOf : GoodIn wsX7_letter (wsV RX7 373 RX7 yX7_manyOf wsX7_manyOf) := goodIn_app (goodIn_of _ (by decide +kernel)) ggX7_letter_X7_manyOf
set_option maxRecDepth 20000 in
theorem ggX7_letter_X7_nameOf : GoodIn wsX7_letter wsX7_nameOf := goodIn_r _ [16, 17, 18, 19, 20, 21, 22, 23, 24, 25, 26, 27, 28, 29, 30, 31, 32, 33, 34, 35, 36, 37, 38, 39, 40, 41, 42, 43, 44, 45, 46, 47, 48, 49, 50, 51, 52, 53, 54, 55, 56, 57, 58, 59, 60, 61, 62, 63, 64, 65, 66, 67, 68, 69, 70, 71, 72, 73, 74, 75, 76, 77, 78, 79, 80, 81, 82, 83, 84, 85, 86, 87, 88, 89, 90, 91, 92, 93, 94, 95, 96, 97, 98, 99, 100, 101, 102, 103, 104, 105, 106, 107, 108, 109, 110] rfl (by decide +kernel)
set_option maxRecDepth 20000 in
theorem gX7_letter_X7_nameOf : GoodIn wsX7_letter (wsV RX7 377 RX7 yX7_nameOf wsX7_nameOf) := goodIn_app (goodIn_of _ (by decide +kernel)) ggX7_letter_X7_nameOf
theorem dX7_letter_0 : decode cX7_letter 0 = .ok (.iload_n 1, 1) := by decide +kernel
theorem dX7_letter_1 : decode cX7_letter 1 = .ok (.iconst 0, 1) := by decide +kernel
theorem dX7_letter_2 : decode cX7_letter 2 = .ok (.iconst 1, 1) := by decide +kernel
theorem dX7_letter_3 : decode cX7_letter 3 = .ok (.invokestatic 381, 3) := by decide +kernel
theorem dX7_letter_6 : decode cX7_letter 6 = .ok (.ifCond .eq 31, 3) := by decide +kernel
theorem dX7_letter_9 : decode cX7_letter 9 = .ok (.iload_n 2, 1) := by decide +kernel
theorem dX7_letter_10 : decode cX7_letter 10 = .ok (.iconst 0, 1) := by decide +kernel
theorem dX7_letter_11 : decode cX7_letter 11 = .ok (.aload_n 0, 1) := by decide +kernel
theorem dX7_letter_12 : decode cX7_letter 12 = .ok (.aload_n 0, 1) := by decide +kernel
theorem dX7_letter_13 : decode cX7_letter 13 = .ok (.getfield 51, 3) := by decide +kernel
theorem dX7_letter_16 : decode cX7_letter 16 = .ok (.iload_n 1, 1) := by decide +kernel
theorem dX7_letter_17 : decode cX7_letter 17 = .ok (.invokevirtual 373, 3) := by decide +kernel
theorem dX7_letter_20 : decode cX7_letter 20 = .ok (.iconst 1, 1) := by decide +kernel
theorem dX7_letter_21 : decode cX7_letter 21 = .ok (.isub, 1) := by decide +kernel
theorem dX7_letter_22 : decode cX7_letter 22 = .ok (.invokestatic 381, 3) := by decide +kernel
theorem dX7_letter_25 : decode cX7_letter 25 = .ok (.ifCond .eq 12, 3) := by decide +kernel
theorem dX7_letter_28 : decode cX7_letter 28 = .ok (.iload_n 3, 1) := by decide +kernel
theorem dX7_letter_29 : decode cX7_letter 29 = .ok (.iconst 0, 1) := by decide +kernel
theorem dX7_letter_30 : decode cX7_letter 30 = .ok (.iconst 5, 1) := by decide +kernel
theorem dX7_letter_31 : decode cX7_letter 31 = .ok (.invokestatic 381, 3) := by decide +kernel
theorem dX7_letter_34 : decode cX7_letter 34 = .ok (.ifCond .ne 5, 3) := by decide +kernel
theorem dX7_letter_37 : decode cX7_letter 37 = .ok (.iconst (-1), 1) := by decide +kernel
theorem dX7_letter_38 : decode cX7_letter 38 = .ok (.ireturn, 1) := by decide +kernel
theorem dX7_letter_39 : decode cX7_letter 39 = .ok (.aload_n 0, 1) := by decide +kernel
theorem dX7_letter_40 : decode cX7_letter 40 = .ok (.aload_n 0, 1) := by decide +kernel
theorem dX7_letter_41 : decode cX7_letter 41 = .ok (.getfield 51, 3) := by decide +kernel
theorem dX7_letter_44 : decode cX7_letter 44 = .ok (.iload_n 1, 1) := by decide +kernel
theorem dX7_letter_45 : decode cX7_letter 45 = .ok (.iload_n 2, 1) := by decide +kernel
theorem dX7_letter_46 : decode cX7_letter 46 = .ok (.invokevirtual 377, 3) := by decide +kernel
theorem dX7_letter_49 : decode cX7_letter 49 = .ok (.lstore 4, 2) := by decide +kernel
theorem dX7_letter_51 : decode cX7_letter 51 = .ok (.iconst 0, 1) := by decide +kernel
theorem dX7_letter_52 : decode cX7_letter 52 = .ok (.istore 6, 2) := by decide +kernel
theorem dX7_letter_54 : decode cX7_letter 54 = .ok (.lload 4, 2) := by decide +kernel
theorem dX7_letter_56 : decode cX7_letter 56 = .ok (.lstore 7, 2) := by decide +kernel
theorem dX7_letter_58 : decode cX7_letter 58 = .ok (.lload 7, 2) := by decide +kernel
theorem dX7_letter_60 : decode cX7_letter 60 = .ok (.lconst 0, 1) := by decide +kernel
theorem dX7_letter_61 : decode cX7_letter 61 = .ok (.lcmp, 1) := by decide +kernel
theorem dX7_letter_62 : decode cX7_letter 62 = .ok (.ifCond .le 16, 3) := by decide +kernel
theorem dX7_letter_65 : decode cX7_letter 65 = .ok (.iinc 6 1, 3) := by decide +kernel
theorem dX7_letter_68 : decode cX7_letter 68 = .ok (.lload 7, 2) := by decide +kernel
theorem dX7_letter_70 : decode cX7_letter 70 = .ok (.bipush 8, 2) := by decide +kernel
theorem dX7_letter_72 : decode cX7_letter 72 = .ok (.lshr, 1) := by decide +kernel
theorem dX7_letter_73 : decode cX7_letter 73 = .ok (.lstore 7, 2) := by decide +kernel
theorem dX7_letter_75 : decode cX7_letter 75 = .ok (.goto (-17), 3) := by decide +kernel
theorem dX7_letter_78 : decode cX7_letter 78 = .ok (.iload_n 3, 1) := by decide +kernel
theorem dX7_letter_79 : decode cX7_letter 79 = .ok (.iload 6, 2) := by decide +kernel
theorem dX7_letter_81 : decode cX7_letter 81 = .ok (.if_icmp .lt 7, 3) := by decide +kernel
theorem dX7_letter_84 : decode cX7_letter 84 = .ok (.iconst 0, 1) := by decide +kernel
theorem dX7_letter_85 : decode cX7_letter 85 = .ok (.goto 25, 3) := by decide +kernel
theorem dX7_letter_88 : decode cX7_letter 88 = .ok (.lload 4, 2) := by decide +kernel
theorem dX7_letter_90 : decode cX7_letter 90 = .ok (.bipush 8, 2) := by decide +kernel
theorem dX7_letter_92 : decode cX7_letter 92 = .ok (.iload 6, 2) := by decide +kernel
theorem dX7_letter_94 : decode cX7_letter 94 = .ok (.iconst 1, 1) := by decide +kernel
theorem dX7_letter_95 : decode cX7_letter 95 = .ok (.isub, 1) := by decide +kernel
theorem dX7_letter_96 : decode cX7_letter 96 = .ok (.iload_n 3, 1) := by decide +kernel
theorem dX7_letter_97 : decode cX7_letter 97 = .ok (.isub, 1) := by decide +kernel
theorem dX7_letter_98 : decode cX7_letter 98 = .ok (.imul, 1) := by decide +kernel
theorem dX7_letter_99 : decode cX7_letter 99 = .ok (.lshr, 1) := by decide +kernel
theorem dX7_letter_100 : decode cX7_letter 100 = .ok (.ldc2_w 542, 3) := by decide +kernel
theorem dX7_letter_103 : decode cX7_letter 103 = .ok (.land, 1) := by decide +kernel
theorem dX7_letter_104 : decode cX7_letter 104 = .ok (.l2i, 1) := by decide +kernel
theorem dX7_letter_105 : decode cX7_letter 105 = .ok (.bipush 97, 2) := by decide +kernel
theorem dX7_letter_107 : decode cX7_letter 107 = .ok (.isub, 1) := by decide +kernel
theorem dX7_letter_108 : decode cX7_letter 108 = .ok (.iconst 1, 1) := by decide +kernel
theorem dX7_letter_109 : decode cX7_letter 109 = .ok (.iadd, 1) := by decide +kernel
theorem dX7_letter_110 : decode cX7_letter 110 = .ok (.ireturn, 1) := by decide +kernel
set_option maxRecDepth 20000 in
theorem ggX7_thing_X7_isThing : GoodIn wsX7_thing wsX7_isThing := goodIn_r _ [12, 13, 2, 22, 23, 24, 25, 26, 27, 28, 29, 30, 31, 32, 33, 34, 35, 36, 37, 38, 39, 40, 41, 42, 43, 44, 45, 46, 47, 48, 49, 50, 51, 52, 53, 54, 55, 56, 57, 58, 59, 60, 61, 62, 63, 64, 65, 66, 67, 68, 69, 70, 71, 72, 73, 74, 75, 76, 77, 78, 79, 80, 81, 82, 83, 84, 85, 86, 87, 88, 89, 90, 91, 92, 93, 94, 95, 96, 97, 98, 99, 100, 101, 102, 103, 104, 105, 106, 107, 108, 109, 110, 111, 112, 113] rfl (by decide +kernel)
set_option maxRecDepth 20000 in
theorem gX7_thing_X7_isThing : GoodIn wsX7_thing (wsV RX7 544 RX7 yX7_isThing wsX7_isThing) := goodIn_app (goodIn_of _ (by decide +kernel)) ggX7_thing_X7_isThing
set_option maxRecDepth 20000 in
theorem ggX7_thing_X7_holds : GoodIn wsX7_thing wsX7_holds := goodIn_r _ [16] rfl (by decide +kernel)
set_option maxRecDepth 20000 in
theorem gX7_thing_X7_holds : GoodIn wsX7_thing (va_wsS RX7 483 yX7_holds wsX7_holds) := goodIn_app (goodIn_of _ (by decide +kernel)) ggX7_thing_X7_holds
set_option maxRecDepth 20000 in
theorem ggX7_thing_X7_givesOf : GoodIn wsX7_thing wsX7_givesOf := goodIn_r _ [20, 21, 2, 22, 23, 24, 25, 26, 27, 28, 29, 30, 31, 32, 33, 34, 35, 36, 37, 38, 39, 40, 41, 42, 43, 44, 45, 46, 47, 48, 49, 50, 51, 52, 53, 54, 55, 56, 57, 58, 59, 60, 61, 62, 63, 64, 65, 66, 67, 68, 69, 70, 71, 72, 73, 74, 75, 76, 77, 78, 79, 80, 81, 82, 83, 84, 85, 86, 87, 88, 89, 90, 91, 92, 93, 94, 95, 96, 97, 98, 99, 100, 101, 102, 103, 104, 105, 106, 107, 108, 109, 110, 111, 112, 113] rfl (by decide +kernel)
set_option maxRecDepth 20000 in
theorem gX7_thing_X7_givesOf : GoodIn wsX7_thing (wsV RX7 487 RX7 yX7_givesOf wsX7_givesOf) := goodIn_app (goodIn_of _ (by decide +kernel)) ggX7_thing_X7_givesOf
theorem dX7_thing_0 : decode cX7_thing 0 = .ok (.aload_n 0, 1) := by decide +kernel
theorem dX7_thing_1 : decode cX7_thing 1 = .ok (.iload_n 1, 1) := by decide +kernel
theorem dX7_thing_2 : decode cX7_thing 2 = .ok (.invokevirtual 544, 3) := by decide +kernel
theorem dX7_thing_5 : decode cX7_thing 5 = .ok (.ifCond .ne 5, 3) := by decide +kernel
theorem dX7_thing_8 : decode cX7_thing 8 = .ok (.iconst (-1), 1) := by decide +kernel
theorem dX7_thing_9 : decode cX7_thing 9 = .ok (.ireturn, 1) := by decide +kernel
theorem dX7_thing_10 : decode cX7_thing 10 = .ok (.iconst 0, 1) := by decide +kernel
theorem dX7_thing_11 : decode cX7_thing 11 = .ok (.istore_n 3, 1) := by decide +kernel
theorem dX7_thing_12 : decode cX7_thing 12 = .ok (.iload_n 2, 1) := by decide +kernel
theorem dX7_thing_13 : decode cX7_thing 13 = .ok (.tableswitch 168 0 5 #[39, 54, 69, 84, 103, 125], 39) := by decide +kernel
theorem dX7_thing_52 : decode cX7_thing 52 = .ok (.aload_n 0, 1) := by decide +kernel
theorem dX7_thing_53 : decode cX7_thing 53 = .ok (.getfield 57, 3) := by decide +kernel
theorem dX7_thing_56 : decode cX7_thing 56 = .ok (.bipush 10, 2) := by decide +kernel
theorem dX7_thing_58 : decode cX7_thing 58 = .ok (.aload_n 0, 1) := by decide +kernel
theorem dX7_thing_59 : decode cX7_thing 59 = .ok (.getfield 51, 3) := by decide +kernel
theorem dX7_thing_62 : decode cX7_thing 62 = .ok (.imul, 1) := by decide +kernel
theorem dX7_thing_63 : decode cX7_thing 63 = .ok (.iload_n 1, 1) := by decide +kernel
theorem dX7_thing_64 : decode cX7_thing 64 = .ok (.iadd, 1) := by decide +kernel
theorem dX7_thing_65 : decode cX7_thing 65 = .ok (.iaload, 1) := by decide +kernel
theorem dX7_thing_66 : decode cX7_thing 66 = .ok (.ireturn, 1) := by decide +kernel
theorem dX7_thing_67 : decode cX7_thing 67 = .ok (.aload_n 0, 1) := by decide +kernel
theorem dX7_thing_68 : decode cX7_thing 68 = .ok (.getfield 60, 3) := by decide +kernel
theorem dX7_thing_71 : decode cX7_thing 71 = .ok (.bipush 10, 2) := by decide +kernel
theorem dX7_thing_73 : decode cX7_thing 73 = .ok (.aload_n 0, 1) := by decide +kernel
theorem dX7_thing_74 : decode cX7_thing 74 = .ok (.getfield 51, 3) := by decide +kernel
theorem dX7_thing_77 : decode cX7_thing 77 = .ok (.imul, 1) := by decide +kernel
theorem dX7_thing_78 : decode cX7_thing 78 = .ok (.iload_n 1, 1) := by decide +kernel
theorem dX7_thing_79 : decode cX7_thing 79 = .ok (.iadd, 1) := by decide +kernel
theorem dX7_thing_80 : decode cX7_thing 80 = .ok (.iaload, 1) := by decide +kernel
theorem dX7_thing_81 : decode cX7_thing 81 = .ok (.ireturn, 1) := by decide +kernel
theorem dX7_thing_82 : decode cX7_thing 82 = .ok (.aload_n 0, 1) := by decide +kernel
theorem dX7_thing_83 : decode cX7_thing 83 = .ok (.getfield 63, 3) := by decide +kernel
theorem dX7_thing_86 : decode cX7_thing 86 = .ok (.bipush 10, 2) := by decide +kernel
theorem dX7_thing_88 : decode cX7_thing 88 = .ok (.aload_n 0, 1) := by decide +kernel
theorem dX7_thing_89 : decode cX7_thing 89 = .ok (.getfield 51, 3) := by decide +kernel
theorem dX7_thing_92 : decode cX7_thing 92 = .ok (.imul, 1) := by decide +kernel
theorem dX7_thing_93 : decode cX7_thing 93 = .ok (.iload_n 1, 1) := by decide +kernel
theorem dX7_thing_94 : decode cX7_thing 94 = .ok (.iadd, 1) := by decide +kernel
theorem dX7_thing_95 : decode cX7_thing 95 = .ok (.iaload, 1) := by decide +kernel
theorem dX7_thing_96 : decode cX7_thing 96 = .ok (.ireturn, 1) := by decide +kernel
theorem dX7_thing_97 : decode cX7_thing 97 = .ok (.aload_n 0, 1) := by decide +kernel
theorem dX7_thing_98 : decode cX7_thing 98 = .ok (.getfield 162, 3) := by decide +kernel
theorem dX7_thing_101 : decode cX7_thing 101 = .ok (.iconst 0, 1) := by decide +kernel
theorem dX7_thing_102 : decode cX7_thing 102 = .ok (.iaload, 1) := by decide +kernel
theorem dX7_thing_103 : decode cX7_thing 103 = .ok (.iload_n 1, 1) := by decide +kernel
theorem dX7_thing_104 : decode cX7_thing 104 = .ok (.invokestatic 483, 3) := by decide +kernel
theorem dX7_thing_107 : decode cX7_thing 107 = .ok (.ifCond .eq 7, 3) := by decide +kernel
theorem dX7_thing_110 : decode cX7_thing 110 = .ok (.iconst 1, 1) := by decide +kernel
theorem dX7_thing_111 : decode cX7_thing 111 = .ok (.goto 4, 3) := by decide +kernel
theorem dX7_thing_114 : decode cX7_thing 114 = .ok (.iconst 0, 1) := by decide +kernel
theorem dX7_thing_115 : decode cX7_thing 115 = .ok (.ireturn, 1) := by decide +kernel
theorem dX7_thing_116 : decode cX7_thing 116 = .ok (.aload_n 0, 1) := by decide +kernel
theorem dX7_thing_117 : decode cX7_thing 117 = .ok (.getfield 81, 3) := by decide +kernel
theorem dX7_thing_120 : decode cX7_thing 120 = .ok (.aload_n 0, 1) := by decide +kernel
theorem dX7_thing_121 : decode cX7_thing 121 = .ok (.getfield 51, 3) := by decide +kernel
theorem dX7_thing_124 : decode cX7_thing 124 = .ok (.iaload, 1) := by decide +kernel
theorem dX7_thing_125 : decode cX7_thing 125 = .ok (.iload_n 1, 1) := by decide +kernel
theorem dX7_thing_126 : decode cX7_thing 126 = .ok (.invokestatic 483, 3) := by decide +kernel
theorem dX7_thing_129 : decode cX7_thing 129 = .ok (.ifCond .eq 7, 3) := by decide +kernel
theorem dX7_thing_132 : decode cX7_thing 132 = .ok (.iconst 1, 1) := by decide +kernel
theorem dX7_thing_133 : decode cX7_thing 133 = .ok (.goto 4, 3) := by decide +kernel
theorem dX7_thing_136 : decode cX7_thing 136 = .ok (.iconst 0, 1) := by decide +kernel
theorem dX7_thing_137 : decode cX7_thing 137 = .ok (.ireturn, 1) := by decide +kernel
theorem dX7_thing_138 : decode cX7_thing 138 = .ok (.iconst 0, 1) := by decide +kernel
theorem dX7_thing_139 : decode cX7_thing 139 = .ok (.istore 4, 2) := by decide +kernel
theorem dX7_thing_141 : decode cX7_thing 141 = .ok (.iload 4, 2) := by decide +kernel
theorem dX7_thing_143 : decode cX7_thing 143 = .ok (.aload_n 0, 1) := by decide +kernel
theorem dX7_thing_144 : decode cX7_thing 144 = .ok (.getfield 66, 3) := by decide +kernel
theorem dX7_thing_147 : decode cX7_thing 147 = .ok (.aload_n 0, 1) := by decide +kernel
theorem dX7_thing_148 : decode cX7_thing 148 = .ok (.getfield 51, 3) := by decide +kernel
theorem dX7_thing_151 : decode cX7_thing 151 = .ok (.iaload, 1) := by decide +kernel
theorem dX7_thing_152 : decode cX7_thing 152 = .ok (.if_icmp .ge 27, 3) := by decide +kernel
theorem dX7_thing_155 : decode cX7_thing 155 = .ok (.iload_n 3, 1) := by decide +kernel
theorem dX7_thing_156 : decode cX7_thing 156 = .ok (.aload_n 0, 1) := by decide +kernel
theorem dX7_thing_157 : decode cX7_thing 157 = .ok (.iload 4, 2) := by decide +kernel
theorem dX7_thing_159 : decode cX7_thing 159 = .ok (.invokevirtual 487, 3) := by decide +kernel
theorem dX7_thing_162 : decode cX7_thing 162 = .ok (.iload_n 1, 1) := by decide +kernel
theorem dX7_thing_163 : decode cX7_thing 163 = .ok (.if_icmp .ne 7, 3) := by decide +kernel
theorem dX7_thing_166 : decode cX7_thing 166 = .ok (.iconst 1, 1) := by decide +kernel
theorem dX7_thing_167 : decode cX7_thing 167 = .ok (.goto 4, 3) := by decide +kernel
theorem dX7_thing_170 : decode cX7_thing 170 = .ok (.iconst 0, 1) := by decide +kernel
theorem dX7_thing_171 : decode cX7_thing 171 = .ok (.iadd, 1) := by decide +kernel
theorem dX7_thing_172 : decode cX7_thing 172 = .ok (.istore_n 3, 1) := by decide +kernel
theorem dX7_thing_173 : decode cX7_thing 173 = .ok (.iinc 4 1, 3) := by decide +kernel
theorem dX7_thing_176 : decode cX7_thing 176 = .ok (.goto (-35), 3) := by decide +kernel
theorem dX7_thing_179 : decode cX7_thing 179 = .ok (.iload_n 3, 1) := by decide +kernel
theorem dX7_thing_180 : decode cX7_thing 180 = .ok (.ireturn, 1) := by decide +kernel
theorem dX7_thing_181 : decode cX7_thing 181 = .ok (.iconst (-1), 1) := by decide +kernel
theorem dX7_thing_182 : decode cX7_thing 182 = .ok (.ireturn, 1) := by decide +kernel
set_option maxRecDepth 20000 in
theorem ggX7_wish_X7_isWish : GoodIn wsX7_wish wsX7_isWish := goodIn_r _ [10, 11, 2, 103, 104, 105, 106, 107, 108, 109, 110, 111, 112, 113, 114, 115, 116, 117, 118, 119, 120, 121, 122, 123, 124, 125, 126, 127, 128, 129, 130, 131, 132, 133, 134, 135, 136, 137, 138, 139, 140, 141, 142, 143, 144, 145, 146, 147, 148, 149, 150, 151, 152, 153, 154, 155, 156, 157, 158, 159, 160, 161, 162, 163, 164, 165, 166, 167, 168, 169, 170, 171, 172, 173, 174, 175, 176, 177, 178, 179, 180, 181, 182, 183, 184, 185, 186, 187, 188, 189, 190, 191, 192, 193, 194] rfl (by decide +kernel)
set_option maxRecDepth 20000 in
theorem gX7_wish_X7_isWish : GoodIn wsX7_wish (wsV RX7 547 RX7 yX7_isWish wsX7_isWish) := goodIn_app (goodIn_of _ (by decide +kernel)) ggX7_wish_X7_isWish
set_option maxRecDepth 20000 in
theorem ggX7_wish_X7_asksLayer : GoodIn wsX7_wish wsX7_asksLayer := goodIn_r _ [15, 16, 17, 18, 19, 20, 21, 22, 9, 23, 24, 25, 26, 27, 103, 104, 105, 106, 107, 108, 109, 110, 111, 112, 113, 114, 115, 116, 117, 118, 119, 120, 121, 122, 123, 124, 125, 126, 127, 128, 129, 130, 131, 132, 133, 134, 135, 136, 137, 138, 139, 140, 141, 142, 143, 144, 145, 146, 147, 148, 149, 150, 151, 152, 153, 154, 155, 156, 157, 158, 159, 160, 161, 162, 163, 164, 165, 166, 167, 168, 169, 170, 171, 172, 173, 174, 175, 176, 177, 178, 179, 180, 181, 182, 183, 184, 185, 186, 187, 188, 189, 190, 191, 192, 193, 194] rfl (by decide +kernel)
set_option maxRecDepth 20000 in
theorem gX7_wish_X7_asksLayer : GoodIn wsX7_wish (wsV RX7 539 RX7 yX7_asksLayer wsX7_asksLayer) := goodIn_app (goodIn_of _ (by decide +kernel)) ggX7_wish_X7_asksLayer
set_option maxRecDepth 20000 in
theorem ggX7_wish_X7_givesOf : GoodIn wsX7_wish wsX7_givesOf := goodIn_r _ [31, 32, 2, 103, 104, 105, 106, 107, 108, 109, 110, 111, 112, 113, 114, 115, 116, 117, 118, 119, 120, 121, 122, 123, 124, 125, 126, 127, 128, 129, 130, 131, 132, 133, 134, 135, 136, 137, 138, 139, 140, 141, 142, 143, 144, 145, 146, 147, 148, 149, 150, 151, 152, 153, 154, 155, 156, 157, 158, 159, 160, 161, 162, 163, 164, 165, 166, 167, 168, 169, 170, 171, 172, 173, 174, 175, 176, 177, 178, 179, 180, 181, 182, 183, 184, 185, 186, 187, 188, 189, 190, 191, 192, 193, 194] rfl (by decide +kernel)
set_option maxRecDepth 20000 in
theorem gX7_wish_X7_givesOf : GoodIn wsX7_wish (wsV RX7 487 RX7 yX7_givesOf wsX7_givesOf) := goodIn_app (goodIn_of _ (by decide +kernel)) ggX7_wish_X7_givesOf
set_option maxRecDepth 20000 in
theorem ggX7_wish_X7_wordsOf : GoodIn wsX7_wish wsX7_wordsOf := goodIn_r _ [36, 37, 2, 103, 104, 105, 106, 107, 108, 109, 110, 111, 112, 113, 114, 115, 116, 117, 118, 119, 120, 121, 122, 123, 124, 125, 126, 127, 128, 129, 130, 131, 132, 133, 134, 135, 136, 137, 138, 139, 140, 141, 142, 143, 144, 145, 146, 147, 148, 149, 150, 151, 152, 153, 154, 155, 156, 157, 158, 159, 160, 161, 162, 163, 164, 165, 166, 167, 168, 169, 170, 171, 172, 173, 174, 175, 176, 177, 178, 179, 180, 181, 182, 183, 184, 185, 186, 187, 188, 189, 190, 191, 192, 193, 194] rfl (by decide +kernel)
set_option maxRecDepth 20000 in
theorem gX7_wish_X7_wordsOf : GoodIn wsX7_wish (wsV RX7 496 RX7 yX7_wordsOf wsX7_wordsOf) := goodIn_app (goodIn_of _ (by decide +kernel)) ggX7_wish_X7_wordsOf
set_option maxRecDepth 20000 in
theorem ggX7_wish_X7_rhymeOf : GoodIn wsX7_wish wsX7_rhymeOf := goodIn_r _ [41, 42, 2, 28, 29, 30, 9, 31, 32, 103, 104, 105, 106, 107, 108, 109, 110, 111, 112, 113, 114, 115, 116, 117, 118, 119, 120, 121, 122, 123, 124, 125, 126, 127, 128, 129, 130, 131, 132, 133, 134, 135, 136, 137, 138, 139, 140, 141, 142, 143, 144, 145, 146, 147, 148, 149, 150, 151, 152, 153, 154, 155, 156, 157, 158, 159, 160, 161, 162, 163, 164, 165, 166, 167, 168, 169, 170, 171, 172, 173, 174, 175, 176, 177, 178, 179, 180, 181, 182, 183, 184, 185, 186, 187, 188, 189, 190, 191, 192, 193, 194] rfl (by decide +kernel)
set_option maxRecDepth 20000 in
theorem gX7_wish_X7_rhymeOf : GoodIn wsX7_wish (wsV RX7 499 RX7 yX7_rhymeOf wsX7_rhymeOf) := goodIn_app (goodIn_of _ (by decide +kernel)) ggX7_wish_X7_rhymeOf
set_option maxRecDepth 20000 in
theorem ggX7_wish_X7_whyNot : GoodIn wsX7_wish wsX7_whyNot := goodIn_r _ [46, 2, 1, 24, 3, 28, 29, 30, 9, 31, 32, 47, 48, 49, 33, 34, 35, 36, 37, 38, 39, 40, 41, 42, 50, 51, 52, 53, 54, 55, 56, 57, 58, 59, 60, 61, 62, 63, 64, 65, 66, 67, 25, 26, 27, 68, 69, 70, 71, 72, 73, 74, 75, 76, 77, 78, 79, 80, 81, 82, 83, 84, 85, 86, 87, 88, 89, 90, 91, 92, 93, 94, 95, 96, 103, 104, 105, 106, 107, 108, 109, 110, 111, 112, 113, 114, 115, 116, 117, 118, 119, 120, 121, 122, 123, 124, 125, 126, 127, 128, 129, 130, 131, 132, 133, 134, 135, 136, 137, 138, 139, 140, 141, 142, 143, 144, 145, 146, 147, 148, 149, 150, 151, 152, 153, 154, 155, 156, 157, 158, 159, 160, 161, 162, 163, 164, 165, 166, 167, 168, 169, 170, 171, 172, 173, 174, 175, 176, 177, 178, 179, 180, 181, 182, 183, 184, 185, 186, 187, 188, 189, 190, 191, 192, 193, 194] rfl (by decide +kernel)
set_option maxRecDepth 20000 in
theorem gX7_wish_X7_whyNot : GoodIn wsX7_wish (wsV RX7 550 RX7 yX7_whyNot wsX7_whyNot) := goodIn_app (goodIn_of _ (by decide +kernel)) ggX7_wish_X7_whyNot
set_option maxRecDepth 20000 in
theorem ggX7_wish_X7_darkBy : GoodIn wsX7_wish wsX7_darkBy := goodIn_r _ [100, 54, 101, 2, 102, 57, 58, 59, 9, 60, 61, 62, 63, 64, 65, 66, 67, 24, 25, 26, 27, 68, 69, 70, 71, 72, 73, 47, 48, 49, 74, 75, 76, 33, 34, 35, 36, 37, 38, 39, 40, 41, 42, 28, 29, 30, 31, 32, 77, 78, 79, 80, 81, 82, 83, 84, 85, 86, 87, 88, 89, 90, 103, 104, 105, 106, 107, 108, 109, 110, 111, 112, 113, 114, 115, 116, 117, 118, 119, 120, 121, 122, 123, 124, 125, 126, 127, 128, 129, 130, 131, 132, 133, 134, 135, 136, 137, 138, 139, 140, 141, 142, 143, 144, 145, 146, 147, 148, 149, 150, 151, 152, 153, 154, 155, 156, 157, 158, 159, 160, 161, 162, 163, 164, 165, 166, 167, 168, 169, 170, 171, 172, 173, 174, 175, 176, 177, 178, 179, 180, 181, 182, 183, 184, 185, 186, 187, 188, 189, 190, 191, 192, 193, 194] rfl (by decide +kernel)
set_option maxRecDepth 20000 in
theorem gX7_wish_X7_darkBy : GoodIn wsX7_wish (wsV RX7 553 RX7 yX7_darkBy wsX7_darkBy) := goodIn_app (goodIn_of _ (by decide +kernel)) ggX7_wish_X7_darkBy
theorem dX7_wish_0 : decode cX7_wish 0 = .ok (.aload_n 0, 1) := by decide +kernel
theorem dX7_wish_1 : decode cX7_wish 1 = .ok (.iload_n 1, 1) := by decide +kernel
theorem dX7_wish_2 : decode cX7_wish 2 = .ok (.invokevirtual 547, 3) := by decide +kernel
theorem dX7_wish_5 : decode cX7_wish 5 = .ok (.ifCond .ne 5, 3) := by decide +kernel
theorem dX7_wish_8 : decode cX7_wish 8 = .ok (.iconst (-1), 1) := by decide +kernel
theorem dX7_wish_9 : decode cX7_wish 9 = .ok (.ireturn, 1) := by decide +kernel
theorem dX7_wish_10 : decode cX7_wish 10 = .ok (.aload_n 0, 1) := by decide +kernel
theorem dX7_wish_11 : decode cX7_wish 11 = .ok (.iconst 0, 1) := by decide +kernel
theorem dX7_wish_12 : decode cX7_wish 12 = .ok (.invokevirtual 539, 3) := by decide +kernel
theorem dX7_wish_15 : decode cX7_wish 15 = .ok (.iconst 0, 1) := by decide +kernel
theorem dX7_wish_16 : decode cX7_wish 16 = .ok (.istore_n 3, 1) := by decide +kernel
theorem dX7_wish_17 : decode cX7_wish 17 = .ok (.iload_n 2, 1) := by decide +kernel
theorem dX7_wish_18 : decode cX7_wish 18 = .ok (.tableswitch 153 0 7 #[46, 52, 67, 82, 88, 100, 106, 112], 46) := by decide +kernel
theorem dX7_wish_64 : decode cX7_wish 64 = .ok (.aload_n 0, 1) := by decide +kernel
theorem dX7_wish_65 : decode cX7_wish 65 = .ok (.iload_n 1, 1) := by decide +kernel
theorem dX7_wish_66 : decode cX7_wish 66 = .ok (.invokevirtual 487, 3) := by decide +kernel
theorem dX7_wish_69 : decode cX7_wish 69 = .ok (.ireturn, 1) := by decide +kernel
theorem dX7_wish_70 : decode cX7_wish 70 = .ok (.aload_n 0, 1) := by decide +kernel
theorem dX7_wish_71 : decode cX7_wish 71 = .ok (.getfield 75, 3) := by decide +kernel
theorem dX7_wish_74 : decode cX7_wish 74 = .ok (.bipush 12, 2) := by decide +kernel
theorem dX7_wish_76 : decode cX7_wish 76 = .ok (.aload_n 0, 1) := by decide +kernel
theorem dX7_wish_77 : decode cX7_wish 77 = .ok (.getfield 51, 3) := by decide +kernel
theorem dX7_wish_80 : decode cX7_wish 80 = .ok (.imul, 1) := by decide +kernel
theorem dX7_wish_81 : decode cX7_wish 81 = .ok (.iload_n 1, 1) := by decide +kernel
theorem dX7_wish_82 : decode cX7_wish 82 = .ok (.iadd, 1) := by decide +kernel
theorem dX7_wish_83 : decode cX7_wish 83 = .ok (.iaload, 1) := by decide +kernel
theorem dX7_wish_84 : decode cX7_wish 84 = .ok (.ireturn, 1) := by decide +kernel
theorem dX7_wish_85 : decode cX7_wish 85 = .ok (.aload_n 0, 1) := by decide +kernel
theorem dX7_wish_86 : decode cX7_wish 86 = .ok (.getfield 78, 3) := by decide +kernel
theorem dX7_wish_89 : decode cX7_wish 89 = .ok (.bipush 12, 2) := by decide +kernel
theorem dX7_wish_91 : decode cX7_wish 91 = .ok (.aload_n 0, 1) := by decide +kernel
theorem dX7_wish_92 : decode cX7_wish 92 = .ok (.getfield 51, 3) := by decide +kernel
theorem dX7_wish_95 : decode cX7_wish 95 = .ok (.imul, 1) := by decide +kernel
theorem dX7_wish_96 : decode cX7_wish 96 = .ok (.iload_n 1, 1) := by decide +kernel
theorem dX7_wish_97 : decode cX7_wish 97 = .ok (.iadd, 1) := by decide +kernel
theorem dX7_wish_98 : decode cX7_wish 98 = .ok (.iaload, 1) := by decide +kernel
theorem dX7_wish_99 : decode cX7_wish 99 = .ok (.ireturn, 1) := by decide +kernel
theorem dX7_wish_100 : decode cX7_wish 100 = .ok (.aload_n 0, 1) := by decide +kernel
theorem dX7_wish_101 : decode cX7_wish 101 = .ok (.iload_n 1, 1) := by decide +kernel
theorem dX7_wish_102 : decode cX7_wish 102 = .ok (.invokevirtual 496, 3) := by decide +kernel
theorem dX7_wish_105 : decode cX7_wish 105 = .ok (.ireturn, 1) := by decide +kernel
theorem dX7_wish_106 : decode cX7_wish 106 = .ok (.aload_n 0, 1) := by decide +kernel
theorem dX7_wish_107 : decode cX7_wish 107 = .ok (.iload_n 1, 1) := by decide +kernel
theorem dX7_wish_108 : decode cX7_wish 108 = .ok (.invokevirtual 496, 3) := by decide +kernel
theorem dX7_wish_111 : decode cX7_wish 111 = .ok (.aload_n 0, 1) := by decide +kernel
theorem dX7_wish_112 : decode cX7_wish 112 = .ok (.iload_n 1, 1) := by decide +kernel
theorem dX7_wish_113 : decode cX7_wish 113 = .ok (.invokevirtual 499, 3) := by decide +kernel
theorem dX7_wish_116 : decode cX7_wish 116 = .ok (.iadd, 1) := by decide +kernel
theorem dX7_wish_117 : decode cX7_wish 117 = .ok (.ireturn, 1) := by decide +kernel
theorem dX7_wish_118 : decode cX7_wish 118 = .ok (.aload_n 0, 1) := by decide +kernel
theorem dX7_wish_119 : decode cX7_wish 119 = .ok (.iload_n 1, 1) := by decide +kernel
theorem dX7_wish_120 : decode cX7_wish 120 = .ok (.invokevirtual 550, 3) := by decide +kernel
theorem dX7_wish_123 : decode cX7_wish 123 = .ok (.ireturn, 1) := by decide +kernel
theorem dX7_wish_124 : decode cX7_wish 124 = .ok (.aload_n 0, 1) := by decide +kernel
theorem dX7_wish_125 : decode cX7_wish 125 = .ok (.iload_n 1, 1) := by decide +kernel
theorem dX7_wish_126 : decode cX7_wish 126 = .ok (.invokevirtual 553, 3) := by decide +kernel
theorem dX7_wish_129 : decode cX7_wish 129 = .ok (.ireturn, 1) := by decide +kernel
theorem dX7_wish_130 : decode cX7_wish 130 = .ok (.iconst 0, 1) := by decide +kernel
theorem dX7_wish_131 : decode cX7_wish 131 = .ok (.istore 4, 2) := by decide +kernel
theorem dX7_wish_133 : decode cX7_wish 133 = .ok (.iload 4, 2) := by decide +kernel
theorem dX7_wish_135 : decode cX7_wish 135 = .ok (.aload_n 0, 1) := by decide +kernel
theorem dX7_wish_136 : decode cX7_wish 136 = .ok (.getfield 174, 3) := by decide +kernel
theorem dX7_wish_139 : decode cX7_wish 139 = .ok (.iconst 0, 1) := by decide +kernel
theorem dX7_wish_140 : decode cX7_wish 140 = .ok (.iaload, 1) := by decide +kernel
theorem dX7_wish_141 : decode cX7_wish 141 = .ok (.if_icmp .ge 28, 3) := by decide +kernel
theorem dX7_wish_144 : decode cX7_wish 144 = .ok (.iload_n 3, 1) := by decide +kernel
theorem dX7_wish_145 : decode cX7_wish 145 = .ok (.aload_n 0, 1) := by decide +kernel
theorem dX7_wish_146 : decode cX7_wish 146 = .ok (.getfield 180, 3) := by decide +kernel
theorem dX7_wish_149 : decode cX7_wish 149 = .ok (.iload 4, 2) := by decide +kernel
theorem dX7_wish_151 : decode cX7_wish 151 = .ok (.iaload, 1) := by decide +kernel
theorem dX7_wish_152 : decode cX7_wish 152 = .ok (.iload_n 1, 1) := by decide +kernel
theorem dX7_wish_153 : decode cX7_wish 153 = .ok (.if_icmp .ne 7, 3) := by decide +kernel
theorem dX7_wish_156 : decode cX7_wish 156 = .ok (.iconst 1, 1) := by decide +kernel
theorem dX7_wish_157 : decode cX7_wish 157 = .ok (.goto 4, 3) := by decide +kernel
theorem dX7_wish_160 : decode cX7_wish 160 = .ok (.iconst 0, 1) := by decide +kernel
theorem dX7_wish_161 : decode cX7_wish 161 = .ok (.iadd, 1) := by decide +kernel
theorem dX7_wish_162 : decode cX7_wish 162 = .ok (.istore_n 3, 1) := by decide +kernel
theorem dX7_wish_163 : decode cX7_wish 163 = .ok (.iinc 4 1, 3) := by decide +kernel
theorem dX7_wish_166 : decode cX7_wish 166 = .ok (.goto (-33), 3) := by decide +kernel
theorem dX7_wish_169 : decode cX7_wish 169 = .ok (.iload_n 3, 1) := by decide +kernel
theorem dX7_wish_170 : decode cX7_wish 170 = .ok (.ireturn, 1) := by decide +kernel
theorem dX7_wish_171 : decode cX7_wish 171 = .ok (.iconst (-1), 1) := by decide +kernel
theorem dX7_wish_172 : decode cX7_wish 172 = .ok (.ireturn, 1) := by decide +kernel
theorem dX7_writesDown_0 : decode cX7_writesDown 0 = .ok (.aload_n 0, 1) := by decide +kernel
theorem dX7_writesDown_1 : decode cX7_writesDown 1 = .ok (.getfield 174, 3) := by decide +kernel
theorem dX7_writesDown_4 : decode cX7_writesDown 4 = .ok (.iconst 0, 1) := by decide +kernel
theorem dX7_writesDown_5 : decode cX7_writesDown 5 = .ok (.iaload, 1) := by decide +kernel
theorem dX7_writesDown_6 : decode cX7_writesDown 6 = .ok (.bipush 50, 2) := by decide +kernel
theorem dX7_writesDown_8 : decode cX7_writesDown 8 = .ok (.if_icmp .ne 83, 3) := by decide +kernel
theorem dX7_writesDown_11 : decode cX7_writesDown 11 = .ok (.iconst 0, 1) := by decide +kernel
theorem dX7_writesDown_12 : decode cX7_writesDown 12 = .ok (.istore_n 3, 1) := by decide +kernel
theorem dX7_writesDown_13 : decode cX7_writesDown 13 = .ok (.iload_n 3, 1) := by decide +kernel
theorem dX7_writesDown_14 : decode cX7_writesDown 14 = .ok (.bipush 49, 2) := by decide +kernel
theorem dX7_writesDown_16 : decode cX7_writesDown 16 = .ok (.if_icmp .ge 65, 3) := by decide +kernel
theorem dX7_writesDown_19 : decode cX7_writesDown 19 = .ok (.aload_n 0, 1) := by decide +kernel
theorem dX7_writesDown_20 : decode cX7_writesDown 20 = .ok (.getfield 177, 3) := by decide +kernel
theorem dX7_writesDown_23 : decode cX7_writesDown 23 = .ok (.iload_n 3, 1) := by decide +kernel
theorem dX7_writesDown_24 : decode cX7_writesDown 24 = .ok (.aload_n 0, 1) := by decide +kernel
theorem dX7_writesDown_25 : decode cX7_writesDown 25 = .ok (.getfield 177, 3) := by decide +kernel
theorem dX7_writesDown_28 : decode cX7_writesDown 28 = .ok (.iload_n 3, 1) := by decide +kernel
theorem dX7_writesDown_29 : decode cX7_writesDown 29 = .ok (.iconst 1, 1) := by decide +kernel
theorem dX7_writesDown_30 : decode cX7_writesDown 30 = .ok (.iadd, 1) := by decide +kernel
theorem dX7_writesDown_31 : decode cX7_writesDown 31 = .ok (.iaload, 1) := by decide +kernel
theorem dX7_writesDown_32 : decode cX7_writesDown 32 = .ok (.iastore, 1) := by decide +kernel
theorem dX7_writesDown_33 : decode cX7_writesDown 33 = .ok (.aload_n 0, 1) := by decide +kernel
theorem dX7_writesDown_34 : decode cX7_writesDown 34 = .ok (.getfield 180, 3) := by decide +kernel
theorem dX7_writesDown_37 : decode cX7_writesDown 37 = .ok (.iload_n 3, 1) := by decide +kernel
theorem dX7_writesDown_38 : decode cX7_writesDown 38 = .ok (.aload_n 0, 1) := by decide +kernel
theorem dX7_writesDown_39 : decode cX7_writesDown 39 = .ok (.getfield 180, 3) := by decide +kernel
theorem dX7_writesDown_42 : decode cX7_writesDown 42 = .ok (.iload_n 3, 1) := by decide +kernel
theorem dX7_writesDown_43 : decode cX7_writesDown 43 = .ok (.iconst 1, 1) := by decide +kernel
theorem dX7_writesDown_44 : decode cX7_writesDown 44 = .ok (.iadd, 1) := by decide +kernel
theorem dX7_writesDown_45 : decode cX7_writesDown 45 = .ok (.iaload, 1) := by decide +kernel
theorem dX7_writesDown_46 : decode cX7_writesDown 46 = .ok (.iastore, 1) := by decide +kernel
theorem dX7_writesDown_47 : decode cX7_writesDown 47 = .ok (.aload_n 0, 1) := by decide +kernel
theorem dX7_writesDown_48 : decode cX7_writesDown 48 = .ok (.getfield 183, 3) := by decide +kernel
theorem dX7_writesDown_51 : decode cX7_writesDown 51 = .ok (.iload_n 3, 1) := by decide +kernel
theorem dX7_writesDown_52 : decode cX7_writesDown 52 = .ok (.aload_n 0, 1) := by decide +kernel
theorem dX7_writesDown_53 : decode cX7_writesDown 53 = .ok (.getfield 183, 3) := by decide +kernel
theorem dX7_writesDown_56 : decode cX7_writesDown 56 = .ok (.iload_n 3, 1) := by decide +kernel
theorem dX7_writesDown_57 : decode cX7_writesDown 57 = .ok (.iconst 1, 1) := by decide +kernel
theorem dX7_writesDown_58 : decode cX7_writesDown 58 = .ok (.iadd, 1) := by decide +kernel
theorem dX7_writesDown_59 : decode cX7_writesDown 59 = .ok (.iaload, 1) := by decide +kernel
theorem dX7_writesDown_60 : decode cX7_writesDown 60 = .ok (.iastore, 1) := by decide +kernel
theorem dX7_writesDown_61 : decode cX7_writesDown 61 = .ok (.aload_n 0, 1) := by decide +kernel
theorem dX7_writesDown_62 : decode cX7_writesDown 62 = .ok (.getfield 186, 3) := by decide +kernel
theorem dX7_writesDown_65 : decode cX7_writesDown 65 = .ok (.iload_n 3, 1) := by decide +kernel
theorem dX7_writesDown_66 : decode cX7_writesDown 66 = .ok (.aload_n 0, 1) := by decide +kernel
theorem dX7_writesDown_67 : decode cX7_writesDown 67 = .ok (.getfield 186, 3) := by decide +kernel
theorem dX7_writesDown_70 : decode cX7_writesDown 70 = .ok (.iload_n 3, 1) := by decide +kernel
theorem dX7_writesDown_71 : decode cX7_writesDown 71 = .ok (.iconst 1, 1) := by decide +kernel
theorem dX7_writesDown_72 : decode cX7_writesDown 72 = .ok (.iadd, 1) := by decide +kernel
theorem dX7_writesDown_73 : decode cX7_writesDown 73 = .ok (.iaload, 1) := by decide +kernel
theorem dX7_writesDown_74 : decode cX7_writesDown 74 = .ok (.iastore, 1) := by decide +kernel
theorem dX7_writesDown_75 : decode cX7_writesDown 75 = .ok (.iinc 3 1, 3) := by decide +kernel
theorem dX7_writesDown_78 : decode cX7_writesDown 78 = .ok (.goto (-65), 3) := by decide +kernel
theorem dX7_writesDown_81 : decode cX7_writesDown 81 = .ok (.aload_n 0, 1) := by decide +kernel
theorem dX7_writesDown_82 : decode cX7_writesDown 82 = .ok (.getfield 174, 3) := by decide +kernel
theorem dX7_writesDown_85 : decode cX7_writesDown 85 = .ok (.iconst 0, 1) := by decide +kernel
theorem dX7_writesDown_86 : decode cX7_writesDown 86 = .ok (.dup2, 1) := by decide +kernel
theorem dX7_writesDown_87 : decode cX7_writesDown 87 = .ok (.iaload, 1) := by decide +kernel
theorem dX7_writesDown_88 : decode cX7_writesDown 88 = .ok (.iconst 1, 1) := by decide +kernel
theorem dX7_writesDown_89 : decode cX7_writesDown 89 = .ok (.isub, 1) := by decide +kernel
theorem dX7_writesDown_90 : decode cX7_writesDown 90 = .ok (.iastore, 1) := by decide +kernel
theorem dX7_writesDown_91 : decode cX7_writesDown 91 = .ok (.aload_n 0, 1) := by decide +kernel
theorem dX7_writesDown_92 : decode cX7_writesDown 92 = .ok (.getfield 174, 3) := by decide +kernel
theorem dX7_writesDown_95 : decode cX7_writesDown 95 = .ok (.iconst 0, 1) := by decide +kernel
theorem dX7_writesDown_96 : decode cX7_writesDown 96 = .ok (.iaload, 1) := by decide +kernel
theorem dX7_writesDown_97 : decode cX7_writesDown 97 = .ok (.istore_n 3, 1) := by decide +kernel
theorem dX7_writesDown_98 : decode cX7_writesDown 98 = .ok (.aload_n 0, 1) := by decide +kernel
theorem dX7_writesDown_99 : decode cX7_writesDown 99 = .ok (.getfield 177, 3) := by decide +kernel
theorem dX7_writesDown_102 : decode cX7_writesDown 102 = .ok (.iload_n 3, 1) := by decide +kernel
theorem dX7_writesDown_103 : decode cX7_writesDown 103 = .ok (.aload_n 0, 1) := by decide +kernel
theorem dX7_writesDown_104 : decode cX7_writesDown 104 = .ok (.getfield 171, 3) := by decide +kernel
theorem dX7_writesDown_107 : decode cX7_writesDown 107 = .ok (.iconst 0, 1) := by decide +kernel
theorem dX7_writesDown_108 : decode cX7_writesDown 108 = .ok (.iaload, 1) := by decide +kernel
theorem dX7_writesDown_109 : decode cX7_writesDown 109 = .ok (.iastore, 1) := by decide +kernel
theorem dX7_writesDown_110 : decode cX7_writesDown 110 = .ok (.aload_n 0, 1) := by decide +kernel
theorem dX7_writesDown_111 : decode cX7_writesDown 111 = .ok (.getfield 180, 3) := by decide +kernel
theorem dX7_writesDown_114 : decode cX7_writesDown 114 = .ok (.iload_n 3, 1) := by decide +kernel
theorem dX7_writesDown_115 : decode cX7_writesDown 115 = .ok (.iload_n 1, 1) := by decide +kernel
theorem dX7_writesDown_116 : decode cX7_writesDown 116 = .ok (.iastore, 1) := by decide +kernel
theorem dX7_writesDown_117 : decode cX7_writesDown 117 = .ok (.aload_n 0, 1) := by decide +kernel
theorem dX7_writesDown_118 : decode cX7_writesDown 118 = .ok (.getfield 183, 3) := by decide +kernel
theorem dX7_writesDown_121 : decode cX7_writesDown 121 = .ok (.iload_n 3, 1) := by decide +kernel
theorem dX7_writesDown_122 : decode cX7_writesDown 122 = .ok (.aload_n 0, 1) := by decide +kernel
theorem dX7_writesDown_123 : decode cX7_writesDown 123 = .ok (.getfield 165, 3) := by decide +kernel
theorem dX7_writesDown_126 : decode cX7_writesDown 126 = .ok (.iconst 0, 1) := by decide +kernel
theorem dX7_writesDown_127 : decode cX7_writesDown 127 = .ok (.iaload, 1) := by decide +kernel
theorem dX7_writesDown_128 : decode cX7_writesDown 128 = .ok (.iastore, 1) := by decide +kernel
theorem dX7_writesDown_129 : decode cX7_writesDown 129 = .ok (.aload_n 0, 1) := by decide +kernel
theorem dX7_writesDown_130 : decode cX7_writesDown 130 = .ok (.getfield 186, 3) := by decide +kernel
theorem dX7_writesDown_133 : decode cX7_writesDown 133 = .ok (.iload_n 3, 1) := by decide +kernel
theorem dX7_writesDown_134 : decode cX7_writesDown 134 = .ok (.iload_n 2, 1) := by decide +kernel
theorem dX7_writesDown_135 : decode cX7_writesDown 135 = .ok (.ifCond .eq 7, 3) := by decide +kernel
theorem dX7_writesDown_138 : decode cX7_writesDown 138 = .ok (.iconst 1, 1) := by decide +kernel
theorem dX7_writesDown_139 : decode cX7_writesDown 139 = .ok (.goto 4, 3) := by decide +kernel
theorem dX7_writesDown_142 : decode cX7_writesDown 142 = .ok (.iconst 0, 1) := by decide +kernel
theorem dX7_writesDown_143 : decode cX7_writesDown 143 = .ok (.iastore, 1) := by decide +kernel
theorem dX7_writesDown_144 : decode cX7_writesDown 144 = .ok (.aload_n 0, 1) := by decide +kernel
theorem dX7_writesDown_145 : decode cX7_writesDown 145 = .ok (.getfield 174, 3) := by decide +kernel
theorem dX7_writesDown_148 : decode cX7_writesDown 148 = .ok (.iconst 0, 1) := by decide +kernel
theorem dX7_writesDown_149 : decode cX7_writesDown 149 = .ok (.dup2, 1) := by decide +kernel
theorem dX7_writesDown_150 : decode cX7_writesDown 150 = .ok (.iaload, 1) := by decide +kernel
theorem dX7_writesDown_151 : decode cX7_writesDown 151 = .ok (.iconst 1, 1) := by decide +kernel
theorem dX7_writesDown_152 : decode cX7_writesDown 152 = .ok (.iadd, 1) := by decide +kernel
theorem dX7_writesDown_153 : decode cX7_writesDown 153 = .ok (.iastore, 1) := by decide +kernel
theorem dX7_writesDown_154 : decode cX7_writesDown 154 = .ok (.return_, 1) := by decide +kernel
set_option maxRecDepth 20000 in
theorem ggX7_goes_X7_asksLayer : GoodIn wsX7_goes wsX7_asksLayer := goodIn_r _ [11, 2, 1, 3, 12, 13, 14, 15, 10, 16, 17, 18, 19, 20, 85, 86, 87, 88, 89, 90, 91, 92, 93, 94, 95, 96, 97, 98, 99, 100, 101, 102, 103, 104, 105, 106, 107, 108, 109, 110, 111, 112, 113, 114, 115, 116, 117, 118, 119, 120, 121, 122, 123, 124, 125, 126, 127, 128, 129, 130, 131, 132, 133, 134, 135, 136, 137, 138, 139, 140, 141, 142, 143, 144, 145, 146, 147, 148, 149, 150, 151, 152, 153, 154, 155, 156, 157, 158, 159, 160, 161, 162, 163, 164, 165, 166, 167, 168, 169, 170, 171, 172, 173, 174, 175, 176] rfl (by decide +kernel)
set_option maxRecDepth 20000 in
theorem gX7_goes_X7_asksLayer : GoodIn wsX7_goes (wsV RX7 539 RX7 yX7_asksLayer wsX7_asksLayer) := goodIn_app (goodIn_of _ (by decide +kernel)) ggX7_goes_X7_asksLayer
set_option maxRecDepth 20000 in
theorem ggX7_goes_X7_darkBy : GoodIn wsX7_goes wsX7_darkBy := goodIn_r _ [24, 25, 26, 5, 27, 28, 29, 30, 10, 31, 32, 33, 34, 35, 36, 37, 38, 17, 18, 19, 20, 39, 40, 41, 42, 43, 44, 45, 46, 47, 48, 49, 50, 51, 52, 53, 54, 55, 56, 57, 58, 59, 60, 61, 62, 63, 64, 65, 66, 67, 68, 69, 70, 71, 72, 73, 74, 75, 76, 77, 78, 79, 85, 86, 87, 88, 89, 90, 91, 92, 93, 94, 95, 96, 97, 98, 99, 100, 101, 102, 103, 104, 105, 106, 107, 108, 109, 110, 111, 112, 113, 114, 115, 116, 117, 118, 119, 120, 121, 122, 123, 124, 125, 126, 127, 128, 129, 130, 131, 132, 133, 134, 135, 136, 137, 138, 139, 140, 141, 142, 143, 144, 145, 146, 147, 148, 149, 150, 151, 152, 153, 154, 155, 156, 157, 158, 159, 160, 161, 162, 163, 164, 165, 166, 167, 168, 169, 170, 171, 172, 173, 174, 175, 176] rfl (by decide +kernel)
set_option maxRecDepth 20000 in
theorem gX7_goes_X7_darkBy : GoodIn wsX7_goes (wsV RX7 553 RX7 yX7_darkBy wsX7_darkBy) := goodIn_app (goodIn_of _ (by decide +kernel)) ggX7_goes_X7_darkBy
set_option maxRecDepth 20000 in
theorem ggX7_goes_X7_behind : GoodIn wsX7_goes wsX7_behind := goodIn_r _ [83, 84, 5, 61, 62, 63, 10, 64, 65, 85, 86, 87, 88, 89, 90, 91, 92, 93, 94, 95, 96, 97, 98, 99, 100, 101, 102, 103, 104, 105, 106, 107, 108, 109, 110, 111, 112, 113, 114, 115, 116, 117, 118, 119, 120, 121, 122, 123, 124, 125, 126, 127, 128, 129, 130, 131, 132, 133, 134, 135, 136, 137, 138, 139, 140, 141, 142, 143, 144, 145, 146, 147, 148, 149, 150, 151, 152, 153, 154, 155, 156, 157, 158, 159, 160, 161, 162, 163, 164, 165, 166, 167, 168, 169, 170, 171, 172, 173, 174, 175, 176] rfl (by decide +kernel)
set_option maxRecDepth 20000 in
theorem gX7_goes_X7_behind : GoodIn wsX7_goes (wsV RX7 556 RX7 yX7_behind wsX7_behind) := goodIn_app (goodIn_of _ (by decide +kernel)) ggX7_goes_X7_behind
theorem dX7_goes_0 : decode cX7_goes 0 = .ok (.aload_n 0, 1) := by decide +kernel
theorem dX7_goes_1 : decode cX7_goes 1 = .ok (.iload_n 1, 1) := by decide +kernel
theorem dX7_goes_2 : decode cX7_goes 2 = .ok (.invokevirtual 539, 3) := by decide +kernel
theorem dX7_goes_5 : decode cX7_goes 5 = .ok (.aload_n 0, 1) := by decide +kernel
theorem dX7_goes_6 : decode cX7_goes 6 = .ok (.getfield 165, 3) := by decide +kernel
theorem dX7_goes_9 : decode cX7_goes 9 = .ok (.iload_n 1, 1) := by decide +kernel
theorem dX7_goes_10 : decode cX7_goes 10 = .ok (.dup2, 1) := by decide +kernel
theorem dX7_goes_11 : decode cX7_goes 11 = .ok (.iaload, 1) := by decide +kernel
theorem dX7_goes_12 : decode cX7_goes 12 = .ok (.aload_n 0, 1) := by decide +kernel
theorem dX7_goes_13 : decode cX7_goes 13 = .ok (.iload_n 2, 1) := by decide +kernel
theorem dX7_goes_14 : decode cX7_goes 14 = .ok (.invokevirtual 553, 3) := by decide +kernel
theorem dX7_goes_17 : decode cX7_goes 17 = .ok (.iadd, 1) := by decide +kernel
theorem dX7_goes_18 : decode cX7_goes 18 = .ok (.iastore, 1) := by decide +kernel
theorem dX7_goes_19 : decode cX7_goes 19 = .ok (.aload_n 0, 1) := by decide +kernel
theorem dX7_goes_20 : decode cX7_goes 20 = .ok (.getfield 162, 3) := by decide +kernel
theorem dX7_goes_23 : decode cX7_goes 23 = .ok (.iload_n 1, 1) := by decide +kernel
theorem dX7_goes_24 : decode cX7_goes 24 = .ok (.aload_n 0, 1) := by decide +kernel
theorem dX7_goes_25 : decode cX7_goes 25 = .ok (.aload_n 0, 1) := by decide +kernel
theorem dX7_goes_26 : decode cX7_goes 26 = .ok (.getfield 162, 3) := by decide +kernel
theorem dX7_goes_29 : decode cX7_goes 29 = .ok (.iload_n 1, 1) := by decide +kernel
theorem dX7_goes_30 : decode cX7_goes 30 = .ok (.iaload, 1) := by decide +kernel
theorem dX7_goes_31 : decode cX7_goes 31 = .ok (.iload_n 2, 1) := by decide +kernel
theorem dX7_goes_32 : decode cX7_goes 32 = .ok (.invokevirtual 556, 3) := by decide +kernel
theorem dX7_goes_35 : decode cX7_goes 35 = .ok (.iastore, 1) := by decide +kernel
theorem dX7_goes_36 : decode cX7_goes 36 = .ok (.aload_n 0, 1) := by decide +kernel
theorem dX7_goes_37 : decode cX7_goes 37 = .ok (.getfield 168, 3) := by decide +kernel
theorem dX7_goes_40 : decode cX7_goes 40 = .ok (.iload_n 1, 1) := by decide +kernel
theorem dX7_goes_41 : decode cX7_goes 41 = .ok (.dup2, 1) := by decide +kernel
theorem dX7_goes_42 : decode cX7_goes 42 = .ok (.iaload, 1) := by decide +kernel
theorem dX7_goes_43 : decode cX7_goes 43 = .ok (.iconst 1, 1) := by decide +kernel
theorem dX7_goes_44 : decode cX7_goes 44 = .ok (.iadd, 1) := by decide +kernel
theorem dX7_goes_45 : decode cX7_goes 45 = .ok (.iastore, 1) := by decide +kernel
theorem dX7_goes_46 : decode cX7_goes 46 = .ok (.aload_n 0, 1) := by decide +kernel
theorem dX7_goes_47 : decode cX7_goes 47 = .ok (.getfield 165, 3) := by decide +kernel
theorem dX7_goes_50 : decode cX7_goes 50 = .ok (.iload_n 1, 1) := by decide +kernel
theorem dX7_goes_51 : decode cX7_goes 51 = .ok (.iaload, 1) := by decide +kernel
theorem dX7_goes_52 : decode cX7_goes 52 = .ok (.aload_n 0, 1) := by decide +kernel
theorem dX7_goes_53 : decode cX7_goes 53 = .ok (.getfield 102, 3) := by decide +kernel
theorem dX7_goes_56 : decode cX7_goes 56 = .ok (.aload_n 0, 1) := by decide +kernel
theorem dX7_goes_57 : decode cX7_goes 57 = .ok (.getfield 51, 3) := by decide +kernel
theorem dX7_goes_60 : decode cX7_goes 60 = .ok (.iaload, 1) := by decide +kernel
theorem dX7_goes_61 : decode cX7_goes 61 = .ok (.if_icmp .le 7, 3) := by decide +kernel
theorem dX7_goes_64 : decode cX7_goes 64 = .ok (.iconst 1, 1) := by decide +kernel
theorem dX7_goes_65 : decode cX7_goes 65 = .ok (.goto 4, 3) := by decide +kernel
theorem dX7_goes_68 : decode cX7_goes 68 = .ok (.iconst 0, 1) := by decide +kernel
theorem dX7_goes_69 : decode cX7_goes 69 = .ok (.istore_n 3, 1) := by decide +kernel
theorem dX7_goes_70 : decode cX7_goes 70 = .ok (.iload_n 3, 1) := by decide +kernel
theorem dX7_goes_71 : decode cX7_goes 71 = .ok (.ifCond .eq 32, 3) := by decide +kernel
theorem dX7_goes_74 : decode cX7_goes 74 = .ok (.aload_n 0, 1) := by decide +kernel
theorem dX7_goes_75 : decode cX7_goes 75 = .ok (.getfield 162, 3) := by decide +kernel
theorem dX7_goes_78 : decode cX7_goes 78 = .ok (.iload_n 1, 1) := by decide +kernel
theorem dX7_goes_79 : decode cX7_goes 79 = .ok (.aload_n 0, 1) := by decide +kernel
theorem dX7_goes_80 : decode cX7_goes 80 = .ok (.getfield 81, 3) := by decide +kernel
theorem dX7_goes_83 : decode cX7_goes 83 = .ok (.aload_n 0, 1) := by decide +kernel
theorem dX7_goes_84 : decode cX7_goes 84 = .ok (.getfield 51, 3) := by decide +kernel
theorem dX7_goes_87 : decode cX7_goes 87 = .ok (.iaload, 1) := by decide +kernel
theorem dX7_goes_88 : decode cX7_goes 88 = .ok (.iastore, 1) := by decide +kernel
theorem dX7_goes_89 : decode cX7_goes 89 = .ok (.aload_n 0, 1) := by decide +kernel
theorem dX7_goes_90 : decode cX7_goes 90 = .ok (.getfield 165, 3) := by decide +kernel
theorem dX7_goes_93 : decode cX7_goes 93 = .ok (.iload_n 1, 1) := by decide +kernel
theorem dX7_goes_94 : decode cX7_goes 94 = .ok (.iconst 0, 1) := by decide +kernel
theorem dX7_goes_95 : decode cX7_goes 95 = .ok (.iastore, 1) := by decide +kernel
theorem dX7_goes_96 : decode cX7_goes 96 = .ok (.aload_n 0, 1) := by decide +kernel
theorem dX7_goes_97 : decode cX7_goes 97 = .ok (.getfield 168, 3) := by decide +kernel
theorem dX7_goes_100 : decode cX7_goes 100 = .ok (.iload_n 1, 1) := by decide +kernel
theorem dX7_goes_101 : decode cX7_goes 101 = .ok (.iconst 0, 1) := by decide +kernel
theorem dX7_goes_102 : decode cX7_goes 102 = .ok (.iastore, 1) := by decide +kernel
theorem dX7_goes_103 : decode cX7_goes 103 = .ok (.iload_n 3, 1) := by decide +kernel
theorem dX7_goes_104 : decode cX7_goes 104 = .ok (.ireturn, 1) := by decide +kernel
set_option maxRecDepth 20000 in
theorem ggX7_maySay_X7_asksLayer : GoodIn wsX7_maySay wsX7_asksLayer := goodIn_r _ [5, 6, 7, 8, 9, 10, 11, 12, 4, 13, 14, 15, 16, 17, 90, 91, 92, 93, 94, 95, 96, 97, 98, 99, 100, 101, 102, 103, 104, 105, 106, 107, 108, 109, 110, 111, 112, 113, 114, 115, 116, 117, 118, 119, 120, 121, 122, 123, 124, 125, 126, 127, 128, 129, 130, 131, 132, 133, 134, 135, 136, 137, 138, 139, 140, 141, 142, 143, 144, 145, 146, 147, 148, 149, 150, 151, 152, 153, 154, 155, 156, 157, 158, 159, 160, 161, 162, 163, 164, 165, 166, 167, 168, 169, 170, 171, 172, 173, 174, 175, 176, 177, 178, 179, 180, 181] rfl (by decide +kernel)
set_option maxRecDepth 20000 in
theorem gX7_maySay_X7_asksLayer : GoodIn wsX7_maySay (wsV RX7 539 RX7 yX7_asksLayer wsX7_asksLayer) := goodIn_app (goodIn_of _ (by decide +kernel)) ggX7_maySay_X7_asksLayer
set_option maxRecDepth 20000 in
theorem ggX7_maySay_X7_whyNot : GoodIn wsX7_maySay wsX7_whyNot := goodIn_r _ [21, 22, 23, 14, 24, 25, 26, 27, 4, 28, 29, 30, 31, 32, 33, 34, 35, 36, 37, 38, 39, 40, 41, 42, 43, 44, 45, 46, 47, 48, 49, 50, 51, 52, 53, 54, 55, 56, 57, 58, 59, 60, 15, 16, 17, 61, 62, 63, 64, 65, 66, 67, 68, 69, 70, 71, 72, 73, 74, 75, 76, 77, 78, 79, 80, 81, 82, 83, 84, 85, 86, 87, 88, 89, 90, 91, 92, 93, 94, 95, 96, 97, 98, 99, 100, 101, 102, 103, 104, 105, 106, 107, 108, 109, 110, 111, 112, 113, 114, 115, 116, 117, 118, 119, 120, 121, 122, 123, 124, 125, 126, 127, 128, 129, 130, 131, 132, 133, 134, 135, 136, 137, 138, 139, 140, 141, 142, 143, 144, 145, 146, 147, 148, 149, 150, 151, 152, 153, 154, 155, 156, 157, 158, 159, 160, 161, 162, 163, 164, 165, 166, 167, 168, 169, 170, 171, 172, 173, 174, 175, 176, 177, 178, 179, 180, 181] rfl (by decide +kernel)
set_option maxRecDepth 20000 in
theorem gX7_maySay_X7_whyNot : GoodIn wsX7_maySay (wsV RX7 550 RX7 yX7_whyNot wsX7_whyNot) := goodIn_app (goodIn_of _ (by decide +kernel)) ggX7_maySay_X7_whyNot
theorem dX7_maySay_0 : decode cX7_maySay 0 = .ok (.aload_n 0, 1) := by decide +kernel
theorem dX7_maySay_1 : decode cX7_maySay 1 = .ok (.iload_n 1, 1) := by decide +kernel
theorem dX7_maySay_2 : decode cX7_maySay 2 = .ok (.invokevirtual 539, 3) := by decide +kernel
theorem dX7_maySay_5 : decode cX7_maySay 5 = .ok (.aload_n 0, 1) := by decide +kernel
theorem dX7_maySay_6 : decode cX7_maySay 6 = .ok (.iload_n 2, 1) := by decide +kernel
theorem dX7_maySay_7 : decode cX7_maySay 7 = .ok (.invokevirtual 550, 3) := by decide +kernel
theorem dX7_maySay_10 : decode cX7_maySay 10 = .ok (.ifCond .ne 7, 3) := by decide +kernel
theorem dX7_maySay_13 : decode cX7_maySay 13 = .ok (.iconst 1, 1) := by decide +kernel
theorem dX7_maySay_14 : decode cX7_maySay 14 = .ok (.goto 4, 3) := by decide +kernel
theorem dX7_maySay_17 : decode cX7_maySay 17 = .ok (.iconst 0, 1) := by decide +kernel
theorem dX7_maySay_18 : decode cX7_maySay 18 = .ok (.ireturn, 1) := by decide +kernel
set_option maxRecDepth 20000 in
theorem ggX7_say_X7_isWish : GoodIn wsX7_say wsX7_isWish := goodIn_r _ [6, 7, 8, 143, 144, 145, 146, 147, 148, 149, 150, 151, 152, 153, 154, 155, 156, 157, 158, 159, 160, 161, 162, 163, 164, 165, 166, 167, 168, 169, 170, 171, 172, 173, 174, 175, 176, 177, 178, 179, 180, 181, 182, 183, 184, 185, 186, 187, 188, 189, 190, 191, 192, 193, 194, 195, 196, 197, 198, 199, 200, 201, 202, 203, 204, 205, 206, 207, 208, 209, 210, 211, 212, 213, 214, 215, 216, 217, 218, 219, 220, 221, 222, 223, 224, 225, 226, 227, 228, 229, 230, 231, 232, 233, 234] rfl (by decide +kernel)
set_option maxRecDepth 20000 in
theorem gX7_say_X7_isWish : GoodIn wsX7_say (wsV RX7 547 RX7 yX7_isWish wsX7_isWish) := goodIn_app (goodIn_of _ (by decide +kernel)) ggX7_say_X7_isWish
set_option maxRecDepth 20000 in
theorem ggX7_say_X7_maySay : GoodIn wsX7_say wsX7_maySay := goodIn_r _ [12, 13, 14, 15, 5, 16, 17, 1, 18, 19, 20, 21, 22, 23, 24, 25, 26, 27, 28, 29, 30, 31, 8, 32, 33, 34, 35, 36, 37, 38, 39, 40, 41, 42, 43, 44, 45, 46, 47, 48, 49, 50, 51, 52, 53, 54, 55, 56, 57, 58, 59, 60, 61, 62, 63, 64, 65, 66, 67, 68, 69, 70, 71, 72, 73, 74, 75, 76, 77, 78, 79, 80, 81, 82, 83, 84, 85, 86, 87, 88, 89, 90, 91, 92, 93, 94, 95, 96, 97, 98, 143, 144, 145, 146, 147, 148, 149, 150, 151, 152, 153, 154, 155, 156, 157, 158, 159, 160, 161, 162, 163, 164, 165, 166, 167, 168, 169, 170, 171, 172, 173, 174, 175, 176, 177, 178, 179, 180, 181, 182, 183, 184, 185, 186, 187, 188, 189, 190, 191, 192, 193, 194, 195, 196, 197, 198, 199, 200, 201, 202, 203, 204, 205, 206, 207, 208, 209, 210, 211, 212, 213, 214, 215, 216, 217, 218, 219, 220, 221, 222, 223, 224, 225, 226, 227, 228, 229, 230, 231, 232, 233, 234] rfl (by decide +kernel)
set_option maxRecDepth 20000 in
theorem gX7_say_X7_maySay : GoodIn wsX7_say (wsV RX7 559 RX7 yX7_maySay wsX7_maySay) := goodIn_app (goodIn_of _ (by decide +kernel)) ggX7_say_X7_maySay
set_option maxRecDepth 20000 in
theorem ggX7_say_X7_refuses : GoodIn wsX7_say wsX7_refuses := goodIn_r _ [102, 103, 143, 144, 145, 146, 147, 148, 149, 150, 151, 152, 153, 154, 155, 156, 157, 158, 159, 160, 161, 162, 163, 164, 165, 166, 167, 168, 169, 170, 171, 172, 173, 174, 175, 176, 177, 178, 179, 180, 181, 182, 183, 184, 185, 186, 187, 188, 189, 190, 191, 192, 193, 194, 195, 196, 197, 198, 199, 200, 201, 202, 203, 204, 205, 206, 207, 208, 209, 210, 211, 212, 213, 214, 215, 216, 217, 218, 219, 220, 221, 222, 223, 224, 225, 226, 227, 228, 229, 230, 231, 232, 233, 234] rfl (by decide +kernel)
set_option maxRecDepth 20000 in
theorem gX7_say_X7_refuses : GoodIn wsX7_say (wsV RX7 291 RX7 yX7_refuses wsX7_refuses) := goodIn_app (goodIn_of _ (by decide +kernel)) ggX7_say_X7_refuses
set_option maxRecDepth 20000 in
theorem ggX7_say_X7_keeps : GoodIn wsX7_say wsX7_keeps := goodIn_r _ [107, 108, 109, 110, 111, 112, 5, 113, 114, 115, 116, 117, 17, 1, 18, 19, 118, 119, 120, 121, 122, 143, 144, 145, 146, 147, 148, 149, 150, 151, 152, 153, 154, 155, 156, 157, 158, 159, 160, 161, 162, 163, 164, 165, 166, 167, 168, 169, 170, 171, 172, 173, 174, 175, 176, 177, 178, 179, 180, 181, 182, 183, 184, 185, 186, 187, 188, 189, 190, 191, 192, 193, 194, 195, 196, 197, 198, 199, 200, 201, 202, 203, 204, 205, 206, 207, 208, 209, 210, 211, 212, 213, 214, 215, 216, 217, 218, 219, 220, 221, 222, 223, 224, 225, 226, 227, 228, 229, 230, 231, 232, 233, 234] rfl (by decide +kernel)
set_option maxRecDepth 20000 in
theorem gX7_say_X7_keeps : GoodIn wsX7_say (wsV RX7 562 RX7 yX7_keeps wsX7_keeps) := goodIn_app (goodIn_of _ (by decide +kernel)) ggX7_say_X7_keeps
set_option maxRecDepth 20000 in
theorem ggX7_say_X7_goes : GoodIn wsX7_say wsX7_goes := goodIn_r _ [126, 1, 17, 18, 127, 8, 128, 13, 14, 15, 5, 16, 19, 20, 21, 22, 23, 24, 25, 26, 27, 129, 130, 131, 132, 56, 133, 134, 59, 60, 61, 62, 63, 64, 65, 66, 67, 68, 69, 70, 71, 72, 73, 74, 75, 39, 40, 41, 76, 77, 78, 42, 43, 44, 45, 46, 47, 48, 49, 50, 51, 34, 35, 36, 37, 38, 79, 80, 81, 82, 83, 84, 85, 86, 87, 88, 89, 90, 91, 92, 135, 136, 137, 138, 33, 143, 144, 145, 146, 147, 148, 149, 150, 151, 152, 153, 154, 155, 156, 157, 158, 159, 160, 161, 162, 163, 164, 165, 166, 167, 168, 169, 170, 171, 172, 173, 174, 175, 176, 177, 178, 179, 180, 181, 182, 183, 184, 185, 186, 187, 188, 189, 190, 191, 192, 193, 194, 195, 196, 197, 198, 199, 200, 201, 202, 203, 204, 205, 206, 207, 208, 209, 210, 211, 212, 213, 214, 215, 216, 217, 218, 219, 220, 221, 222, 223, 224, 225, 226, 227, 228, 229, 230, 231, 232, 233, 234] rfl (by decide +kernel)
set_option maxRecDepth 20000 in
theorem gX7_say_X7_goes : GoodIn wsX7_say (wsV RX7 565 RX7 yX7_goes wsX7_goes) := goodIn_app (goodIn_of _ (by decide +kernel)) ggX7_say_X7_goes
set_option maxRecDepth 20000 in
theorem ggX7_say_X7_writesDown : GoodIn wsX7_say wsX7_writesDown := goodIn_r _ [142, 118, 119, 120, 121, 122, 19, 1, 143, 144, 145, 146, 147, 148, 149, 150, 151, 152, 153, 154, 155, 156, 157, 158, 159, 160, 161, 162, 163, 164, 165, 166, 167, 168, 169, 170, 171, 172, 173, 174, 175, 176, 177, 178, 179, 180, 181, 182, 183, 184, 185, 186, 187, 188, 189, 190, 191, 192, 193, 194, 195, 196, 197, 198, 199, 200, 201, 202, 203, 204, 205, 206, 207, 208, 209, 210, 211, 212, 213, 214, 215, 216, 217, 218, 219, 220, 221, 222, 223, 224, 225, 226, 227, 228, 229, 230, 231, 232, 233, 234] rfl (by decide +kernel)
set_option maxRecDepth 20000 in
theorem gX7_say_X7_writesDown : GoodIn wsX7_say (wsV RX7 568 RX7 yX7_writesDown wsX7_writesDown) := goodIn_app (goodIn_of _ (by decide +kernel)) ggX7_say_X7_writesDown
theorem dX7_say_0 : decode cX7_say 0 = .ok (.aload_n 0, 1) := by decide +kernel
theorem dX7_say_1 : decode cX7_say 1 = .ok (.iload_n 1, 1) := by decide +kernel
theorem dX7_say_2 : decode cX7_say 2 = .ok (.invokevirtual 547, 3) := by decide +kernel
theorem dX7_say_5 : decode cX7_say 5 = .ok (.ifCond .eq 12, 3) := by decide +kernel
theorem dX7_say_8 : decode cX7_say 8 = .ok (.aload_n 0, 1) := by decide +kernel
theorem dX7_say_9 : decode cX7_say 9 = .ok (.iconst 0, 1) := by decide +kernel
theorem dX7_say_10 : decode cX7_say 10 = .ok (.iload_n 1, 1) := by decide +kernel
theorem dX7_say_11 : decode cX7_say 11 = .ok (.invokevirtual 559, 3) := by decide +kernel
theorem dX7_say_14 : decode cX7_say 14 = .ok (.ifCond .ne 9, 3) := by decide +kernel
theorem dX7_say_17 : decode cX7_say 17 = .ok (.aload_n 0, 1) := by decide +kernel
theorem dX7_say_18 : decode cX7_say 18 = .ok (.iconst 2, 1) := by decide +kernel
theorem dX7_say_19 : decode cX7_say 19 = .ok (.invokevirtual 291, 3) := by decide +kernel
theorem dX7_say_22 : decode cX7_say 22 = .ok (.ireturn, 1) := by decide +kernel
theorem dX7_say_23 : decode cX7_say 23 = .ok (.aload_n 0, 1) := by decide +kernel
theorem dX7_say_24 : decode cX7_say 24 = .ok (.invokevirtual 562, 3) := by decide +kernel
theorem dX7_say_27 : decode cX7_say 27 = .ok (.aload_n 0, 1) := by decide +kernel
theorem dX7_say_28 : decode cX7_say 28 = .ok (.iload_n 1, 1) := by decide +kernel
theorem dX7_say_29 : decode cX7_say 29 = .ok (.aload_n 0, 1) := by decide +kernel
theorem dX7_say_30 : decode cX7_say 30 = .ok (.iconst 0, 1) := by decide +kernel
theorem dX7_say_31 : decode cX7_say 31 = .ok (.iload_n 1, 1) := by decide +kernel
theorem dX7_say_32 : decode cX7_say 32 = .ok (.invokevirtual 565, 3) := by decide +kernel
theorem dX7_say_35 : decode cX7_say 35 = .ok (.invokevirtual 568, 3) := by decide +kernel
theorem dX7_say_38 : decode cX7_say 38 = .ok (.aload_n 0, 1) := by decide +kernel
theorem dX7_say_39 : decode cX7_say 39 = .ok (.getfield 165, 3) := by decide +kernel
theorem dX7_say_42 : decode cX7_say 42 = .ok (.iconst 0, 1) := by decide +kernel
theorem dX7_say_43 : decode cX7_say 43 = .ok (.iaload, 1) := by decide +kernel
theorem dX7_say_44 : decode cX7_say 44 = .ok (.ireturn, 1) := by decide +kernel
theorem dX7_briefOnes_0 : decode cX7_briefOnes 0 = .ok (.iconst 0, 1) := by decide +kernel
theorem dX7_briefOnes_1 : decode cX7_briefOnes 1 = .ok (.istore_n 1, 1) := by decide +kernel
theorem dX7_briefOnes_2 : decode cX7_briefOnes 2 = .ok (.iconst 0, 1) := by decide +kernel
theorem dX7_briefOnes_3 : decode cX7_briefOnes 3 = .ok (.istore_n 2, 1) := by decide +kernel
theorem dX7_briefOnes_4 : decode cX7_briefOnes 4 = .ok (.iload_n 2, 1) := by decide +kernel
theorem dX7_briefOnes_5 : decode cX7_briefOnes 5 = .ok (.aload_n 0, 1) := by decide +kernel
theorem dX7_briefOnes_6 : decode cX7_briefOnes 6 = .ok (.getfield 54, 3) := by decide +kernel
theorem dX7_briefOnes_9 : decode cX7_briefOnes 9 = .ok (.aload_n 0, 1) := by decide +kernel
theorem dX7_briefOnes_10 : decode cX7_briefOnes 10 = .ok (.getfield 51, 3) := by decide +kernel
theorem dX7_briefOnes_13 : decode cX7_briefOnes 13 = .ok (.iaload, 1) := by decide +kernel
theorem dX7_briefOnes_14 : decode cX7_briefOnes 14 = .ok (.if_icmp .ge 28, 3) := by decide +kernel
theorem dX7_briefOnes_17 : decode cX7_briefOnes 17 = .ok (.iload_n 1, 1) := by decide +kernel
theorem dX7_briefOnes_18 : decode cX7_briefOnes 18 = .ok (.aload_n 0, 1) := by decide +kernel
theorem dX7_briefOnes_19 : decode cX7_briefOnes 19 = .ok (.getfield 63, 3) := by decide +kernel
theorem dX7_briefOnes_22 : decode cX7_briefOnes 22 = .ok (.bipush 10, 2) := by decide +kernel
theorem dX7_briefOnes_24 : decode cX7_briefOnes 24 = .ok (.aload_n 0, 1) := by decide +kernel
theorem dX7_briefOnes_25 : decode cX7_briefOnes 25 = .ok (.getfield 51, 3) := by decide +kernel
theorem dX7_briefOnes_28 : decode cX7_briefOnes 28 = .ok (.imul, 1) := by decide +kernel
theorem dX7_briefOnes_29 : decode cX7_briefOnes 29 = .ok (.iload_n 2, 1) := by decide +kernel
theorem dX7_briefOnes_30 : decode cX7_briefOnes 30 = .ok (.iadd, 1) := by decide +kernel
theorem dX7_briefOnes_31 : decode cX7_briefOnes 31 = .ok (.iaload, 1) := by decide +kernel
theorem dX7_briefOnes_32 : decode cX7_briefOnes 32 = .ok (.iload_n 2, 1) := by decide +kernel
theorem dX7_briefOnes_33 : decode cX7_briefOnes 33 = .ok (.ishl, 1) := by decide +kernel
theorem dX7_briefOnes_34 : decode cX7_briefOnes 34 = .ok (.ior, 1) := by decide +kernel
theorem dX7_briefOnes_35 : decode cX7_briefOnes 35 = .ok (.istore_n 1, 1) := by decide +kernel
theorem dX7_briefOnes_36 : decode cX7_briefOnes 36 = .ok (.iinc 2 1, 3) := by decide +kernel
theorem dX7_briefOnes_39 : decode cX7_briefOnes 39 = .ok (.goto (-35), 3) := by decide +kernel
theorem dX7_briefOnes_42 : decode cX7_briefOnes 42 = .ok (.iload_n 1, 1) := by decide +kernel
theorem dX7_briefOnes_43 : decode cX7_briefOnes 43 = .ok (.ireturn, 1) := by decide +kernel
set_option maxRecDepth 20000 in
theorem ggX7_dayEnds_X7_briefOnes : GoodIn wsX7_dayEnds wsX7_briefOnes := goodIn_r _ [11, 12, 4, 13, 14, 15, 16, 17, 18, 19, 20, 21, 22, 23, 24, 25, 26, 27, 28, 29, 30, 31, 32, 33, 34, 35, 36, 37, 38, 39, 40, 41, 42, 43, 44, 45, 46, 47, 48, 49, 50, 51, 52, 53, 54, 55, 56, 57, 58, 59, 60, 61, 62, 63, 64, 65, 66, 67, 68, 69, 70, 71, 72, 73, 74, 75, 76, 77, 78, 79, 80, 81, 82, 83, 84, 85, 86, 87, 88, 89, 90, 91, 92, 93, 94, 95, 96, 97, 98, 99, 100, 101, 102, 103, 104, 105] rfl (by decide +kernel)
set_option maxRecDepth 20000 in
theorem gX7_dayEnds_X7_briefOnes : GoodIn wsX7_dayEnds (wsV RX7 572 RX7 yX7_briefOnes wsX7_briefOnes) := goodIn_app (goodIn_of _ (by decide +kernel)) ggX7_dayEnds_X7_briefOnes
theorem dX7_dayEnds_0 : decode cX7_dayEnds 0 = .ok (.aload_n 0, 1) := by decide +kernel
theorem dX7_dayEnds_1 : decode cX7_dayEnds 1 = .ok (.getfield 162, 3) := by decide +kernel
theorem dX7_dayEnds_4 : decode cX7_dayEnds 4 = .ok (.iload_n 1, 1) := by decide +kernel
theorem dX7_dayEnds_5 : decode cX7_dayEnds 5 = .ok (.dup2, 1) := by decide +kernel
theorem dX7_dayEnds_6 : decode cX7_dayEnds 6 = .ok (.iaload, 1) := by decide +kernel
theorem dX7_dayEnds_7 : decode cX7_dayEnds 7 = .ok (.aload_n 0, 1) := by decide +kernel
theorem dX7_dayEnds_8 : decode cX7_dayEnds 8 = .ok (.invokevirtual 572, 3) := by decide +kernel
theorem dX7_dayEnds_11 : decode cX7_dayEnds 11 = .ok (.iconst (-1), 1) := by decide +kernel
theorem dX7_dayEnds_12 : decode cX7_dayEnds 12 = .ok (.ixor, 1) := by decide +kernel
theorem dX7_dayEnds_13 : decode cX7_dayEnds 13 = .ok (.iand, 1) := by decide +kernel
theorem dX7_dayEnds_14 : decode cX7_dayEnds 14 = .ok (.iastore, 1) := by decide +kernel
theorem dX7_dayEnds_15 : decode cX7_dayEnds 15 = .ok (.aload_n 0, 1) := by decide +kernel
theorem dX7_dayEnds_16 : decode cX7_dayEnds 16 = .ok (.getfield 165, 3) := by decide +kernel
theorem dX7_dayEnds_19 : decode cX7_dayEnds 19 = .ok (.iload_n 1, 1) := by decide +kernel
theorem dX7_dayEnds_20 : decode cX7_dayEnds 20 = .ok (.aload_n 0, 1) := by decide +kernel
theorem dX7_dayEnds_21 : decode cX7_dayEnds 21 = .ok (.getfield 165, 3) := by decide +kernel
theorem dX7_dayEnds_24 : decode cX7_dayEnds 24 = .ok (.iload_n 1, 1) := by decide +kernel
theorem dX7_dayEnds_25 : decode cX7_dayEnds 25 = .ok (.iaload, 1) := by decide +kernel
theorem dX7_dayEnds_26 : decode cX7_dayEnds 26 = .ok (.aload_n 0, 1) := by decide +kernel
theorem dX7_dayEnds_27 : decode cX7_dayEnds 27 = .ok (.getfield 105, 3) := by decide +kernel
theorem dX7_dayEnds_30 : decode cX7_dayEnds 30 = .ok (.aload_n 0, 1) := by decide +kernel
theorem dX7_dayEnds_31 : decode cX7_dayEnds 31 = .ok (.getfield 51, 3) := by decide +kernel
theorem dX7_dayEnds_34 : decode cX7_dayEnds 34 = .ok (.iaload, 1) := by decide +kernel
theorem dX7_dayEnds_35 : decode cX7_dayEnds 35 = .ok (.if_icmp .ge 7, 3) := by decide +kernel
theorem dX7_dayEnds_38 : decode cX7_dayEnds 38 = .ok (.iconst 0, 1) := by decide +kernel
theorem dX7_dayEnds_39 : decode cX7_dayEnds 39 = .ok (.goto 19, 3) := by decide +kernel
theorem dX7_dayEnds_42 : decode cX7_dayEnds 42 = .ok (.aload_n 0, 1) := by decide +kernel
theorem dX7_dayEnds_43 : decode cX7_dayEnds 43 = .ok (.getfield 165, 3) := by decide +kernel
theorem dX7_dayEnds_46 : decode cX7_dayEnds 46 = .ok (.iload_n 1, 1) := by decide +kernel
theorem dX7_dayEnds_47 : decode cX7_dayEnds 47 = .ok (.iaload, 1) := by decide +kernel
theorem dX7_dayEnds_48 : decode cX7_dayEnds 48 = .ok (.aload_n 0, 1) := by decide +kernel
theorem dX7_dayEnds_49 : decode cX7_dayEnds 49 = .ok (.getfield 105, 3) := by decide +kernel
theorem dX7_dayEnds_52 : decode cX7_dayEnds 52 = .ok (.aload_n 0, 1) := by decide +kernel
theorem dX7_dayEnds_53 : decode cX7_dayEnds 53 = .ok (.getfield 51, 3) := by decide +kernel
theorem dX7_dayEnds_56 : decode cX7_dayEnds 56 = .ok (.iaload, 1) := by decide +kernel
theorem dX7_dayEnds_57 : decode cX7_dayEnds 57 = .ok (.isub, 1) := by decide +kernel
theorem dX7_dayEnds_58 : decode cX7_dayEnds 58 = .ok (.iastore, 1) := by decide +kernel
theorem dX7_dayEnds_59 : decode cX7_dayEnds 59 = .ok (.aload_n 0, 1) := by decide +kernel
theorem dX7_dayEnds_60 : decode cX7_dayEnds 60 = .ok (.getfield 168, 3) := by decide +kernel
theorem dX7_dayEnds_63 : decode cX7_dayEnds 63 = .ok (.iload_n 1, 1) := by decide +kernel
theorem dX7_dayEnds_64 : decode cX7_dayEnds 64 = .ok (.iconst 0, 1) := by decide +kernel
theorem dX7_dayEnds_65 : decode cX7_dayEnds 65 = .ok (.iastore, 1) := by decide +kernel
theorem dX7_dayEnds_66 : decode cX7_dayEnds 66 = .ok (.aload_n 0, 1) := by decide +kernel
theorem dX7_dayEnds_67 : decode cX7_dayEnds 67 = .ok (.getfield 171, 3) := by decide +kernel
theorem dX7_dayEnds_70 : decode cX7_dayEnds 70 = .ok (.iload_n 1, 1) := by decide +kernel
theorem dX7_dayEnds_71 : decode cX7_dayEnds 71 = .ok (.dup2, 1) := by decide +kernel
theorem dX7_dayEnds_72 : decode cX7_dayEnds 72 = .ok (.iaload, 1) := by decide +kernel
theorem dX7_dayEnds_73 : decode cX7_dayEnds 73 = .ok (.iconst 1, 1) := by decide +kernel
theorem dX7_dayEnds_74 : decode cX7_dayEnds 74 = .ok (.iadd, 1) := by decide +kernel
theorem dX7_dayEnds_75 : decode cX7_dayEnds 75 = .ok (.iastore, 1) := by decide +kernel
theorem dX7_dayEnds_76 : decode cX7_dayEnds 76 = .ok (.return_, 1) := by decide +kernel
set_option maxRecDepth 20000 in
theorem ggX7_night_X7_refuses : GoodIn wsX7_night wsX7_refuses := goodIn_r _ [6, 7, 42, 43, 44, 45, 46, 47, 48, 49, 50, 51, 52, 53, 54, 55, 56, 57, 58, 59, 60, 61, 62, 63, 64, 65, 66, 67, 68, 69, 70, 71, 72, 73, 74, 75, 76, 77, 78, 79, 80, 81, 82, 83, 84, 85, 86, 87, 88, 89, 90, 91, 92, 93, 94, 95, 96, 97, 98, 99, 100, 101, 102, 103, 104, 105, 106, 107, 108, 109, 110, 111, 112, 113, 114, 115, 116, 117, 118, 119, 120, 121, 122, 123, 124, 125, 126, 127, 128, 129, 130, 131, 132, 133] rfl (by decide +kernel)
set_option maxRecDepth 20000 in
theorem gX7_night_X7_refuses : GoodIn wsX7_night (wsV RX7 291 RX7 yX7_refuses wsX7_refuses) := goodIn_app (goodIn_of _ (by decide +kernel)) ggX7_night_X7_refuses
set_option maxRecDepth 20000 in
theorem ggX7_night_X7_keeps : GoodIn wsX7_night wsX7_keeps := goodIn_r _ [11, 12, 13, 14, 15, 16, 5, 17, 18, 19, 20, 21, 22, 23, 24, 1, 25, 26, 27, 28, 29, 42, 43, 44, 45, 46, 47, 48, 49, 50, 51, 52, 53, 54, 55, 56, 57, 58, 59, 60, 61, 62, 63, 64, 65, 66, 67, 68, 69, 70, 71, 72, 73, 74, 75, 76, 77, 78, 79, 80, 81, 82, 83, 84, 85, 86, 87, 88, 89, 90, 91, 92, 93, 94, 95, 96, 97, 98, 99, 100, 101, 102, 103, 104, 105, 106, 107, 108, 109, 110, 111, 112, 113, 114, 115, 116, 117, 118, 119, 120, 121, 122, 123, 124, 125, 126, 127, 128, 129, 130, 131, 132, 133] rfl (by decide +kernel)
set_option maxRecDepth 20000 in
theorem gX7_night_X7_keeps : GoodIn wsX7_night (wsV RX7 562 RX7 yX7_keeps wsX7_keeps) := goodIn_app (goodIn_of _ (by decide +kernel)) ggX7_night_X7_keeps
set_option maxRecDepth 20000 in
theorem ggX7_night_X7_dayEnds : GoodIn wsX7_night wsX7_dayEnds := goodIn_r _ [33, 22, 23, 34, 35, 24, 1, 36, 37, 38, 5, 39, 40, 41, 42, 43, 44, 45, 46, 47, 48, 49, 50, 51, 52, 53, 54, 55, 56, 57, 58, 59, 60, 61, 62, 63, 64, 65, 66, 67, 68, 69, 70, 71, 72, 73, 74, 75, 76, 77, 78, 79, 80, 81, 82, 83, 84, 85, 86, 87, 88, 89, 90, 91, 92, 93, 94, 95, 96, 97, 98, 99, 100, 101, 102, 103, 104, 105, 106, 107, 108, 109, 110, 111, 112, 113, 114, 115, 116, 117, 118, 119, 120, 121, 122, 123, 124, 125, 126, 127, 128, 129, 130, 131, 132, 133] rfl (by decide +kernel)
set_option maxRecDepth 20000 in
theorem gX7_night_X7_dayEnds : GoodIn wsX7_night (wsV RX7 575 RX7 yX7_dayEnds wsX7_dayEnds) := goodIn_app (goodIn_of _ (by decide +kernel)) ggX7_night_X7_dayEnds
theorem dX7_night_0 : decode cX7_night 0 = .ok (.aload_n 0, 1) := by decide +kernel
theorem dX7_night_1 : decode cX7_night 1 = .ok (.getfield 171, 3) := by decide +kernel
theorem dX7_night_4 : decode cX7_night 4 = .ok (.iconst 0, 1) := by decide +kernel
theorem dX7_night_5 : decode cX7_night 5 = .ok (.iaload, 1) := by decide +kernel
theorem dX7_night_6 : decode cX7_night 6 = .ok (.sipush 9999, 3) := by decide +kernel
theorem dX7_night_9 : decode cX7_night 9 = .ok (.if_icmp .ne 9, 3) := by decide +kernel
theorem dX7_night_12 : decode cX7_night 12 = .ok (.aload_n 0, 1) := by decide +kernel
theorem dX7_night_13 : decode cX7_night 13 = .ok (.iconst 3, 1) := by decide +kernel
theorem dX7_night_14 : decode cX7_night 14 = .ok (.invokevirtual 291, 3) := by decide +kernel
theorem dX7_night_17 : decode cX7_night 17 = .ok (.ireturn, 1) := by decide +kernel
theorem dX7_night_18 : decode cX7_night 18 = .ok (.aload_n 0, 1) := by decide +kernel
theorem dX7_night_19 : decode cX7_night 19 = .ok (.invokevirtual 562, 3) := by decide +kernel
theorem dX7_night_22 : decode cX7_night 22 = .ok (.aload_n 0, 1) := by decide +kernel
theorem dX7_night_23 : decode cX7_night 23 = .ok (.iconst 0, 1) := by decide +kernel
theorem dX7_night_24 : decode cX7_night 24 = .ok (.invokevirtual 575, 3) := by decide +kernel
theorem dX7_night_27 : decode cX7_night 27 = .ok (.aload_n 0, 1) := by decide +kernel
theorem dX7_night_28 : decode cX7_night 28 = .ok (.getfield 171, 3) := by decide +kernel
theorem dX7_night_31 : decode cX7_night 31 = .ok (.iconst 0, 1) := by decide +kernel
theorem dX7_night_32 : decode cX7_night 32 = .ok (.iaload, 1) := by decide +kernel
theorem dX7_night_33 : decode cX7_night 33 = .ok (.ireturn, 1) := by decide +kernel
theorem dX7_draw_0 : decode cX7_draw 0 = .ok (.aload_n 0, 1) := by decide +kernel
theorem dX7_draw_1 : decode cX7_draw 1 = .ok (.ldc2_w 578, 3) := by decide +kernel
theorem dX7_draw_4 : decode cX7_draw 4 = .ok (.aload_n 0, 1) := by decide +kernel
theorem dX7_draw_5 : decode cX7_draw 5 = .ok (.getfield 195, 3) := by decide +kernel
theorem dX7_draw_8 : decode cX7_draw 8 = .ok (.lmul, 1) := by decide +kernel
theorem dX7_draw_9 : decode cX7_draw 9 = .ok (.ldc2_w 580, 3) := by decide +kernel
theorem dX7_draw_12 : decode cX7_draw 12 = .ok (.ladd, 1) := by decide +kernel
theorem dX7_draw_13 : decode cX7_draw 13 = .ok (.ldc2_w 582, 3) := by decide +kernel
theorem dX7_draw_16 : decode cX7_draw 16 = .ok (.lrem, 1) := by decide +kernel
theorem dX7_draw_17 : decode cX7_draw 17 = .ok (.putfield 195, 3) := by decide +kernel
theorem dX7_draw_20 : decode cX7_draw 20 = .ok (.aload_n 0, 1) := by decide +kernel
theorem dX7_draw_21 : decode cX7_draw 21 = .ok (.getfield 195, 3) := by decide +kernel
theorem dX7_draw_24 : decode cX7_draw 24 = .ok (.ldc2_w 584, 3) := by decide +kernel
theorem dX7_draw_27 : decode cX7_draw 27 = .ok (.ldiv, 1) := by decide +kernel
theorem dX7_draw_28 : decode cX7_draw 28 = .ok (.iload_n 1, 1) := by decide +kernel
theorem dX7_draw_29 : decode cX7_draw 29 = .ok (.i2l, 1) := by decide +kernel
theorem dX7_draw_30 : decode cX7_draw 30 = .ok (.lrem, 1) := by decide +kernel
theorem dX7_draw_31 : decode cX7_draw 31 = .ok (.l2i, 1) := by decide +kernel
theorem dX7_draw_32 : decode cX7_draw 32 = .ok (.ireturn, 1) := by decide +kernel
set_option maxRecDepth 20000 in
theorem ggX7_saysSome_X7_maySay : GoodIn wsX7_saysSome wsX7_maySay := goodIn_r _ [7, 8, 9, 10, 6, 11, 12, 13, 14, 15, 16, 17, 18, 19, 20, 21, 22, 23, 24, 25, 26, 27, 2, 28, 29, 30, 31, 32, 33, 34, 35, 36, 37, 38, 39, 40, 41, 42, 43, 44, 45, 46, 47, 48, 49, 50, 51, 52, 53, 54, 55, 56, 57, 58, 59, 60, 61, 62, 63, 64, 65, 66, 67, 68, 69, 70, 71, 72, 73, 74, 75, 76, 77, 78, 79, 80, 81, 82, 83, 84, 85, 86, 87, 88, 89, 90, 91, 92, 93, 94, 129, 130, 131, 132, 133, 134, 135, 136, 137, 138, 139, 140, 141, 142, 143, 144, 145, 146, 147, 148, 149, 150, 151, 152, 153, 154, 155, 156, 157, 158, 159, 160, 161, 162, 163, 164, 165, 166, 167, 168, 169, 170, 171, 172, 173, 174, 175, 176, 177, 178, 179, 180, 181, 182, 183, 184, 185, 186, 187, 188, 189, 190, 191, 192, 193, 194, 195, 196, 197, 198, 199, 200, 201, 202, 203, 204, 205, 206, 207, 208, 209, 210, 211, 212, 213, 214, 215, 216, 217, 218, 219, 220] rfl (by decide +kernel)
set_option maxRecDepth 20000 in
theorem gX7_saysSome_X7_maySay : GoodIn wsX7_saysSome (wsV RX7 559 RX7 yX7_maySay wsX7_maySay) := goodIn_app (goodIn_of _ (by decide +kernel)) ggX7_saysSome_X7_maySay
set_option maxRecDepth 20000 in
theorem ggX7_saysSome_X7_draw : GoodIn wsX7_saysSome wsX7_draw := goodIn_r _ [98, 99, 100, 101, 102, 103, 129, 130, 131, 132, 133, 134, 135, 136, 137, 138, 139, 140, 141, 142, 143, 144, 145, 146, 147, 148, 149, 150, 151, 152, 153, 154, 155, 156, 157, 158, 159, 160, 161, 162, 163, 164, 165, 166, 167, 168, 169, 170, 171, 172, 173, 174, 175, 176, 177, 178, 179, 180, 181, 182, 183, 184, 185, 186, 187, 188, 189, 190, 191, 192, 193, 194, 195, 196, 197, 198, 199, 200, 201, 202, 203, 204, 205, 206, 207, 208, 209, 210, 211, 212, 213, 214, 215, 216, 217, 218, 219, 220] rfl (by decide +kernel)
set_option maxRecDepth 20000 in
theorem gX7_saysSome_X7_draw : GoodIn wsX7_saysSome (wsV RX7 586 RX7 yX7_draw wsX7_draw) := goodIn_app (goodIn_of _ (by decide +kernel)) ggX7_saysSome_X7_draw
set_option maxRecDepth 20000 in
theorem ggX7_saysSome_X7_goes : GoodIn wsX7_saysSome wsX7_goes := goodIn_r _ [107, 13, 12, 14, 108, 2, 109, 8, 9, 10, 6, 11, 15, 16, 17, 18, 19, 20, 21, 22, 23, 110, 111, 112, 113, 52, 114, 115, 55, 56, 57, 58, 59, 60, 61, 62, 63, 64, 65, 66, 67, 68, 69, 70, 71, 35, 36, 37, 72, 73, 74, 38, 39, 40, 41, 42, 43, 44, 45, 46, 47, 30, 31, 32, 33, 34, 75, 76, 77, 78, 79, 80, 81, 82, 83, 84, 85, 86, 87, 88, 116, 117, 118, 119, 29, 129, 130, 131, 132, 133, 134, 135, 136, 137, 138, 139, 140, 141, 142, 143, 144, 145, 146, 147, 148, 149, 150, 151, 152, 153, 154, 155, 156, 157, 158, 159, 160, 161, 162, 163, 164, 165, 166, 167, 168, 169, 170, 171, 172, 173, 174, 175, 176, 177, 178, 179, 180, 181, 182, 183, 184, 185, 186, 187, 188, 189, 190, 191, 192, 193, 194, 195, 196, 197, 198, 199, 200, 201, 202, 203, 204, 205, 206, 207, 208, 209, 210, 211, 212, 213, 214, 215, 216, 217, 218, 219, 220] rfl (by decide +kernel)
set_option maxRecDepth 20000 in
theorem gX7_saysSome_X7_goes : GoodIn wsX7_saysSome (wsV RX7 565 RX7 yX7_goes wsX7_goes) := goodIn_app (goodIn_of _ (by decide +kernel)) ggX7_saysSome_X7_goes
set_option maxRecDepth 20000 in
theorem ggX7_saysSome_X7_writesDown : GoodIn wsX7_saysSome wsX7_writesDown := goodIn_r _ [123, 124, 125, 126, 127, 128, 15, 13, 129, 130, 131, 132, 133, 134, 135, 136, 137, 138, 139, 140, 141, 142, 143, 144, 145, 146, 147, 148, 149, 150, 151, 152, 153, 154, 155, 156, 157, 158, 159, 160, 161, 162, 163, 164, 165, 166, 167, 168, 169, 170, 171, 172, 173, 174, 175, 176, 177, 178, 179, 180, 181, 182, 183, 184, 185, 186, 187, 188, 189, 190, 191, 192, 193, 194, 195, 196, 197, 198, 199, 200, 201, 202, 203, 204, 205, 206, 207, 208, 209, 210, 211, 212, 213, 214, 215, 216, 217, 218, 219, 220] rfl (by decide +kernel)
set_option maxRecDepth 20000 in
theorem gX7_saysSome_X7_writesDown : GoodIn wsX7_saysSome (wsV RX7 568 RX7 yX7_writesDown wsX7_writesDown) := goodIn_app (goodIn_of _ (by decide +kernel)) ggX7_saysSome_X7_writesDown
theorem dX7_saysSome_0 : decode cX7_saysSome 0 = .ok (.iconst 0, 1) := by decide +kernel
theorem dX7_saysSome_1 : decode cX7_saysSome 1 = .ok (.istore_n 1, 1) := by decide +kernel
theorem dX7_saysSome_2 : decode cX7_saysSome 2 = .ok (.iconst 0, 1) := by decide +kernel
theorem dX7_saysSome_3 : decode cX7_saysSome 3 = .ok (.istore_n 2, 1) := by decide +kernel
theorem dX7_saysSome_4 : decode cX7_saysSome 4 = .ok (.iload_n 2, 1) := by decide +kernel
theorem dX7_saysSome_5 : decode cX7_saysSome 5 = .ok (.aload_n 0, 1) := by decide +kernel
theorem dX7_saysSome_6 : decode cX7_saysSome 6 = .ok (.getfield 66, 3) := by decide +kernel
theorem dX7_saysSome_9 : decode cX7_saysSome 9 = .ok (.aload_n 0, 1) := by decide +kernel
theorem dX7_saysSome_10 : decode cX7_saysSome 10 = .ok (.getfield 51, 3) := by decide +kernel
theorem dX7_saysSome_13 : decode cX7_saysSome 13 = .ok (.iaload, 1) := by decide +kernel
theorem dX7_saysSome_14 : decode cX7_saysSome 14 = .ok (.if_icmp .ge 26, 3) := by decide +kernel
theorem dX7_saysSome_17 : decode cX7_saysSome 17 = .ok (.iload_n 1, 1) := by decide +kernel
theorem dX7_saysSome_18 : decode cX7_saysSome 18 = .ok (.aload_n 0, 1) := by decide +kernel
theorem dX7_saysSome_19 : decode cX7_saysSome 19 = .ok (.iconst 0, 1) := by decide +kernel
theorem dX7_saysSome_20 : decode cX7_saysSome 20 = .ok (.iload_n 2, 1) := by decide +kernel
theorem dX7_saysSome_21 : decode cX7_saysSome 21 = .ok (.invokevirtual 559, 3) := by decide +kernel
theorem dX7_saysSome_24 : decode cX7_saysSome 24 = .ok (.ifCond .eq 7, 3) := by decide +kernel
theorem dX7_saysSome_27 : decode cX7_saysSome 27 = .ok (.iconst 1, 1) := by decide +kernel
theorem dX7_saysSome_28 : decode cX7_saysSome 28 = .ok (.goto 4, 3) := by decide +kernel
theorem dX7_saysSome_31 : decode cX7_saysSome 31 = .ok (.iconst 0, 1) := by decide +kernel
theorem dX7_saysSome_32 : decode cX7_saysSome 32 = .ok (.iadd, 1) := by decide +kernel
theorem dX7_saysSome_33 : decode cX7_saysSome 33 = .ok (.istore_n 1, 1) := by decide +kernel
theorem dX7_saysSome_34 : decode cX7_saysSome 34 = .ok (.iinc 2 1, 3) := by decide +kernel
theorem dX7_saysSome_37 : decode cX7_saysSome 37 = .ok (.goto (-33), 3) := by decide +kernel
theorem dX7_saysSome_40 : decode cX7_saysSome 40 = .ok (.iload_n 1, 1) := by decide +kernel
theorem dX7_saysSome_41 : decode cX7_saysSome 41 = .ok (.ifCond .ne 5, 3) := by decide +kernel
theorem dX7_saysSome_44 : decode cX7_saysSome 44 = .ok (.iconst 0, 1) := by decide +kernel
theorem dX7_saysSome_45 : decode cX7_saysSome 45 = .ok (.ireturn, 1) := by decide +kernel
theorem dX7_saysSome_46 : decode cX7_saysSome 46 = .ok (.aload_n 0, 1) := by decide +kernel
theorem dX7_saysSome_47 : decode cX7_saysSome 47 = .ok (.iload_n 1, 1) := by decide +kernel
theorem dX7_saysSome_48 : decode cX7_saysSome 48 = .ok (.invokevirtual 586, 3) := by decide +kernel
theorem dX7_saysSome_51 : decode cX7_saysSome 51 = .ok (.istore_n 2, 1) := by decide +kernel
theorem dX7_saysSome_52 : decode cX7_saysSome 52 = .ok (.iconst 0, 1) := by decide +kernel
theorem dX7_saysSome_53 : decode cX7_saysSome 53 = .ok (.istore_n 3, 1) := by decide +kernel
theorem dX7_saysSome_54 : decode cX7_saysSome 54 = .ok (.iload_n 2, 1) := by decide +kernel
theorem dX7_saysSome_55 : decode cX7_saysSome 55 = .ok (.ifCond .gt 12, 3) := by decide +kernel
theorem dX7_saysSome_58 : decode cX7_saysSome 58 = .ok (.aload_n 0, 1) := by decide +kernel
theorem dX7_saysSome_59 : decode cX7_saysSome 59 = .ok (.iconst 0, 1) := by decide +kernel
theorem dX7_saysSome_60 : decode cX7_saysSome 60 = .ok (.iload_n 3, 1) := by decide +kernel
theorem dX7_saysSome_61 : decode cX7_saysSome 61 = .ok (.invokevirtual 559, 3) := by decide +kernel
theorem dX7_saysSome_64 : decode cX7_saysSome 64 = .ok (.ifCond .ne 26, 3) := by decide +kernel
theorem dX7_saysSome_67 : decode cX7_saysSome 67 = .ok (.iload_n 2, 1) := by decide +kernel
theorem dX7_saysSome_68 : decode cX7_saysSome 68 = .ok (.aload_n 0, 1) := by decide +kernel
theorem dX7_saysSome_69 : decode cX7_saysSome 69 = .ok (.iconst 0, 1) := by decide +kernel
theorem dX7_saysSome_70 : decode cX7_saysSome 70 = .ok (.iload_n 3, 1) := by decide +kernel
theorem dX7_saysSome_71 : decode cX7_saysSome 71 = .ok (.invokevirtual 559, 3) := by decide +kernel
theorem dX7_saysSome_74 : decode cX7_saysSome 74 = .ok (.ifCond .eq 7, 3) := by decide +kernel
theorem dX7_saysSome_77 : decode cX7_saysSome 77 = .ok (.iconst 1, 1) := by decide +kernel
theorem dX7_saysSome_78 : decode cX7_saysSome 78 = .ok (.goto 4, 3) := by decide +kernel
theorem dX7_saysSome_81 : decode cX7_saysSome 81 = .ok (.iconst 0, 1) := by decide +kernel
theorem dX7_saysSome_82 : decode cX7_saysSome 82 = .ok (.isub, 1) := by decide +kernel
theorem dX7_saysSome_83 : decode cX7_saysSome 83 = .ok (.istore_n 2, 1) := by decide +kernel
theorem dX7_saysSome_84 : decode cX7_saysSome 84 = .ok (.iinc 3 1, 3) := by decide +kernel
theorem dX7_saysSome_87 : decode cX7_saysSome 87 = .ok (.goto (-33), 3) := by decide +kernel
theorem dX7_saysSome_90 : decode cX7_saysSome 90 = .ok (.aload_n 0, 1) := by decide +kernel
theorem dX7_saysSome_91 : decode cX7_saysSome 91 = .ok (.iload_n 3, 1) := by decide +kernel
theorem dX7_saysSome_92 : decode cX7_saysSome 92 = .ok (.aload_n 0, 1) := by decide +kernel
theorem dX7_saysSome_93 : decode cX7_saysSome 93 = .ok (.iconst 0, 1) := by decide +kernel
theorem dX7_saysSome_94 : decode cX7_saysSome 94 = .ok (.iload_n 3, 1) := by decide +kernel
theorem dX7_saysSome_95 : decode cX7_saysSome 95 = .ok (.invokevirtual 565, 3) := by decide +kernel
theorem dX7_saysSome_98 : decode cX7_saysSome 98 = .ok (.invokevirtual 568, 3) := by decide +kernel
theorem dX7_saysSome_101 : decode cX7_saysSome 101 = .ok (.iconst 1, 1) := by decide +kernel
theorem dX7_saysSome_102 : decode cX7_saysSome 102 = .ok (.ireturn, 1) := by decide +kernel
set_option maxRecDepth 20000 in
theorem ggX7_days_X7_is : GoodIn wsX7_days wsX7_is := goodIn_r _ [5] rfl (by decide +kernel)
set_option maxRecDepth 20000 in
theorem gX7_days_X7_is : GoodIn wsX7_days (va_wsS RX7 381 yX7_is wsX7_is) := goodIn_app (goodIn_of _ (by decide +kernel)) ggX7_days_X7_is
set_option maxRecDepth 20000 in
theorem ggX7_days_X7_refuses : GoodIn wsX7_days wsX7_refuses := goodIn_r _ [9, 10, 165, 166, 167, 168, 169, 170, 171, 172, 173, 174, 175, 176, 177, 178, 179, 180, 181, 182, 183, 184, 185, 186, 187, 188, 189, 190, 191, 192, 193, 194, 195, 196, 197, 198, 199, 200, 201, 202, 203, 204, 205, 206, 207, 208, 209, 210, 211, 212, 213, 214, 215, 216, 217, 218, 219, 220, 221, 222, 223, 224, 225, 226, 227, 228, 229, 230, 231, 232, 233, 234, 235, 236, 237, 238, 239, 240, 241, 242, 243, 244, 245, 246, 247, 248, 249, 250, 251, 252, 253, 254, 255, 256] rfl (by decide +kernel)
set_option maxRecDepth 20000 in
theorem gX7_days_X7_refuses : GoodIn wsX7_days (wsV RX7 291 RX7 yX7_refuses wsX7_refuses) := goodIn_app (goodIn_of _ (by decide +kernel)) ggX7_days_X7_refuses
set_option maxRecDepth 20000 in
theorem ggX7_days_X7_keeps : GoodIn wsX7_days wsX7_keeps := goodIn_r _ [14, 15, 16, 17, 18, 19, 4, 20, 21, 22, 23, 24, 25, 26, 27, 1, 28, 29, 30, 31, 32, 165, 166, 167, 168, 169, 170, 171, 172, 173, 174, 175, 176, 177, 178, 179, 180, 181, 182, 183, 184, 185, 186, 187, 188, 189, 190, 191, 192, 193, 194, 195, 196, 197, 198, 199, 200, 201, 202, 203, 204, 205, 206, 207, 208, 209, 210, 211, 212, 213, 214, 215, 216, 217, 218, 219, 220, 221, 222, 223, 224, 225, 226, 227, 228, 229, 230, 231, 232, 233, 234, 235, 236, 237, 238, 239, 240, 241, 242, 243, 244, 245, 246, 247, 248, 249, 250, 251, 252, 253, 254, 255, 256] rfl (by decide +kernel)
set_option maxRecDepth 20000 in
theorem gX7_days_X7_keeps : GoodIn wsX7_days (wsV RX7 562 RX7 yX7_keeps wsX7_keeps) := goodIn_app (goodIn_of _ (by decide +kernel)) ggX7_days_X7_keeps
set_option maxRecDepth 20000 in
theorem ggX7_days_X7_draw : GoodIn wsX7_days wsX7_draw := goodIn_r _ [36, 37, 38, 39, 40, 41, 165, 166, 167, 168, 169, 170, 171, 172, 173, 174, 175, 176, 177, 178, 179, 180, 181, 182, 183, 184, 185, 186, 187, 188, 189, 190, 191, 192, 193, 194, 195, 196, 197, 198, 199, 200, 201, 202, 203, 204, 205, 206, 207, 208, 209, 210, 211, 212, 213, 214, 215, 216, 217, 218, 219, 220, 221, 222, 223, 224, 225, 226, 227, 228, 229, 230, 231, 232, 233, 234, 235, 236, 237, 238, 239, 240, 241, 242, 243, 244, 245, 246, 247, 248, 249, 250, 251, 252, 253, 254, 255, 256] rfl (by decide +kernel)
set_option maxRecDepth 20000 in
theorem gX7_days_X7_draw : GoodIn wsX7_days (wsV RX7 586 RX7 yX7_draw wsX7_draw) := goodIn_app (goodIn_of _ (by decide +kernel)) ggX7_days_X7_draw
set_option maxRecDepth 20000 in
theorem ggX7_days_X7_saysSome : GoodIn wsX7_days wsX7_saysSome := goodIn_r _ [45, 46, 47, 48, 49, 50, 4, 51, 52, 53, 54, 55, 25, 26, 27, 1, 56, 57, 58, 59, 60, 61, 62, 63, 64, 65, 66, 67, 68, 69, 70, 71, 72, 73, 74, 75, 76, 77, 78, 79, 80, 81, 82, 83, 84, 85, 86, 87, 88, 89, 90, 91, 92, 93, 94, 95, 96, 97, 98, 99, 100, 101, 102, 103, 104, 105, 106, 107, 108, 109, 110, 111, 112, 113, 114, 115, 116, 117, 118, 119, 120, 121, 122, 123, 124, 125, 126, 127, 128, 129, 130, 131, 132, 133, 134, 33, 34, 35, 36, 37, 38, 39, 40, 41, 135, 136, 137, 138, 139, 140, 141, 142, 143, 144, 145, 146, 147, 148, 149, 150, 151, 152, 153, 154, 28, 29, 30, 31, 32, 165, 166, 167, 168, 169, 170, 171, 172, 173, 174, 175, 176, 177, 178, 179, 180, 181, 182, 183, 184, 185, 186, 187, 188, 189, 190, 191, 192, 193, 194, 195, 196, 197, 198, 199, 200, 201, 202, 203, 204, 205, 206, 207, 208, 209, 210, 211, 212, 213, 214, 215, 216, 217, 218, 219, 220, 221, 222, 223, 224, 225, 226, 227, 228, 229, 230, 231, 232, 233, 234, 235, 236, 237, 238, 239, 240, 241, 242, 243, 244, 245, 246, 247, 248, 249, 250, 251, 252, 253, 254, 255, 256] rfl (by decide +kernel)
set_option maxRecDepth 20000 in
theorem gX7_days_X7_saysSome : GoodIn wsX7_days (wsV RX7 589 RX7 yX7_saysSome wsX7_saysSome) := goodIn_app (goodIn_of _ (by decide +kernel)) ggX7_days_X7_saysSome
set_option maxRecDepth 20000 in
theorem ggX7_days_X7_dayEnds : GoodIn wsX7_days wsX7_dayEnds := goodIn_r _ [158, 25, 26, 159, 47, 27, 1, 160, 161, 162, 4, 163, 110, 164, 165, 166, 167, 168, 169, 170, 171, 172, 173, 174, 175, 176, 177, 178, 179, 180, 181, 182, 183, 184, 185, 186, 187, 188, 189, 190, 191, 192, 193, 194, 195, 196, 197, 198, 199, 200, 201, 202, 203, 204, 205, 206, 207, 208, 209, 210, 211, 212, 213, 214, 215, 216, 217, 218, 219, 220, 221, 222, 223, 224, 225, 226, 227, 228, 229, 230, 231, 232, 233, 234, 235, 236, 237, 238, 239, 240, 241, 242, 243, 244, 245, 246, 247, 248, 249, 250, 251, 252, 253, 254, 255, 256] rfl (by decide +kernel)
set_option maxRecDepth 20000 in
theorem gX7_days_X7_dayEnds : GoodIn wsX7_days (wsV RX7 575 RX7 yX7_dayEnds wsX7_dayEnds) := goodIn_app (goodIn_of _ (by decide +kernel)) ggX7_days_X7_dayEnds
theorem dX7_days_0 : decode cX7_days 0 = .ok (.iload_n 1, 1) := by decide +kernel
theorem dX7_days_1 : decode cX7_days 1 = .ok (.iconst 1, 1) := by decide +kernel
theorem dX7_days_2 : decode cX7_days 2 = .ok (.bipush 40, 2) := by decide +kernel
theorem dX7_days_4 : decode cX7_days 4 = .ok (.invokestatic 381, 3) := by decide +kernel
theorem dX7_days_7 : decode cX7_days 7 = .ok (.ifCond .eq 17, 3) := by decide +kernel
theorem dX7_days_10 : decode cX7_days 10 = .ok (.aload_n 0, 1) := by decide +kernel
theorem dX7_days_11 : decode cX7_days 11 = .ok (.getfield 171, 3) := by decide +kernel
theorem dX7_days_14 : decode cX7_days 14 = .ok (.iconst 0, 1) := by decide +kernel
theorem dX7_days_15 : decode cX7_days 15 = .ok (.iaload, 1) := by decide +kernel
theorem dX7_days_16 : decode cX7_days 16 = .ok (.iload_n 1, 1) := by decide +kernel
theorem dX7_days_17 : decode cX7_days 17 = .ok (.iadd, 1) := by decide +kernel
theorem dX7_days_18 : decode cX7_days 18 = .ok (.sipush 9999, 3) := by decide +kernel
theorem dX7_days_21 : decode cX7_days 21 = .ok (.if_icmp .le 9, 3) := by decide +kernel
theorem dX7_days_24 : decode cX7_days 24 = .ok (.aload_n 0, 1) := by decide +kernel
theorem dX7_days_25 : decode cX7_days 25 = .ok (.iconst 3, 1) := by decide +kernel
theorem dX7_days_26 : decode cX7_days 26 = .ok (.invokevirtual 291, 3) := by decide +kernel
theorem dX7_days_29 : decode cX7_days 29 = .ok (.ireturn, 1) := by decide +kernel
theorem dX7_days_30 : decode cX7_days 30 = .ok (.aload_n 0, 1) := by decide +kernel
theorem dX7_days_31 : decode cX7_days 31 = .ok (.invokevirtual 562, 3) := by decide +kernel
theorem dX7_days_34 : decode cX7_days 34 = .ok (.iconst 0, 1) := by decide +kernel
theorem dX7_days_35 : decode cX7_days 35 = .ok (.istore_n 2, 1) := by decide +kernel
theorem dX7_days_36 : decode cX7_days 36 = .ok (.iconst 0, 1) := by decide +kernel
theorem dX7_days_37 : decode cX7_days 37 = .ok (.istore_n 3, 1) := by decide +kernel
theorem dX7_days_38 : decode cX7_days 38 = .ok (.iload_n 3, 1) := by decide +kernel
theorem dX7_days_39 : decode cX7_days 39 = .ok (.iload_n 1, 1) := by decide +kernel
theorem dX7_days_40 : decode cX7_days 40 = .ok (.if_icmp .ge 52, 3) := by decide +kernel
theorem dX7_days_43 : decode cX7_days 43 = .ok (.aload_n 0, 1) := by decide +kernel
theorem dX7_days_44 : decode cX7_days 44 = .ok (.iconst 4, 1) := by decide +kernel
theorem dX7_days_45 : decode cX7_days 45 = .ok (.invokevirtual 586, 3) := by decide +kernel
theorem dX7_days_48 : decode cX7_days 48 = .ok (.istore 4, 2) := by decide +kernel
theorem dX7_days_50 : decode cX7_days 50 = .ok (.iconst 0, 1) := by decide +kernel
theorem dX7_days_51 : decode cX7_days 51 = .ok (.istore 5, 2) := by decide +kernel
theorem dX7_days_53 : decode cX7_days 53 = .ok (.iload 5, 2) := by decide +kernel
theorem dX7_days_55 : decode cX7_days 55 = .ok (.iload 4, 2) := by decide +kernel
theorem dX7_days_57 : decode cX7_days 57 = .ok (.if_icmp .ge 24, 3) := by decide +kernel
theorem dX7_days_60 : decode cX7_days 60 = .ok (.iload_n 2, 1) := by decide +kernel
theorem dX7_days_61 : decode cX7_days 61 = .ok (.aload_n 0, 1) := by decide +kernel
theorem dX7_days_62 : decode cX7_days 62 = .ok (.invokevirtual 589, 3) := by decide +kernel
theorem dX7_days_65 : decode cX7_days 65 = .ok (.ifCond .eq 7, 3) := by decide +kernel
theorem dX7_days_68 : decode cX7_days 68 = .ok (.iconst 1, 1) := by decide +kernel
theorem dX7_days_69 : decode cX7_days 69 = .ok (.goto 4, 3) := by decide +kernel
theorem dX7_days_72 : decode cX7_days 72 = .ok (.iconst 0, 1) := by decide +kernel
theorem dX7_days_73 : decode cX7_days 73 = .ok (.iadd, 1) := by decide +kernel
theorem dX7_days_74 : decode cX7_days 74 = .ok (.istore_n 2, 1) := by decide +kernel
theorem dX7_days_75 : decode cX7_days 75 = .ok (.iinc 5 1, 3) := by decide +kernel
theorem dX7_days_78 : decode cX7_days 78 = .ok (.goto (-25), 3) := by decide +kernel
theorem dX7_days_81 : decode cX7_days 81 = .ok (.aload_n 0, 1) := by decide +kernel
theorem dX7_days_82 : decode cX7_days 82 = .ok (.iconst 0, 1) := by decide +kernel
theorem dX7_days_83 : decode cX7_days 83 = .ok (.invokevirtual 575, 3) := by decide +kernel
theorem dX7_days_86 : decode cX7_days 86 = .ok (.iinc 3 1, 3) := by decide +kernel
theorem dX7_days_89 : decode cX7_days 89 = .ok (.goto (-51), 3) := by decide +kernel
theorem dX7_days_92 : decode cX7_days 92 = .ok (.iload_n 2, 1) := by decide +kernel
theorem dX7_days_93 : decode cX7_days 93 = .ok (.ireturn, 1) := by decide +kernel
set_option maxRecDepth 20000 in
theorem ggX7_seed_X7_refuses : GoodIn wsX7_seed wsX7_refuses := goodIn_r _ [6, 7, 8, 9, 10, 11, 12, 13, 14, 15, 16, 17, 18, 19, 20, 21, 22, 23, 24, 25, 26, 27, 28, 29, 30, 31, 32, 33, 34, 35, 36, 37, 38, 39, 40, 41, 42, 43, 44, 45, 46, 47, 48, 49, 50, 51, 52, 53, 54, 55, 56, 57, 58, 59, 60, 61, 62, 63, 64, 65, 66, 67, 68, 69, 70, 71, 72, 73, 74, 75, 76, 77, 78, 79, 80, 81, 82, 83, 84, 85, 86, 87, 88, 89, 90, 91, 92, 93, 94, 95, 96, 97, 98, 99] rfl (by decide +kernel)
set_option maxRecDepth 20000 in
theorem gX7_seed_X7_refuses : GoodIn wsX7_seed (wsV RX7 291 RX7 yX7_refuses wsX7_refuses) := goodIn_app (goodIn_of _ (by decide +kernel)) ggX7_seed_X7_refuses
theorem dX7_seed_0 : decode cX7_seed 0 = .ok (.iload_n 1, 1) := by decide +kernel
theorem dX7_seed_1 : decode cX7_seed 1 = .ok (.ifCond .ge 17, 3) := by decide +kernel
theorem dX7_seed_4 : decode cX7_seed 4 = .ok (.aload_n 0, 1) := by decide +kernel
theorem dX7_seed_5 : decode cX7_seed 5 = .ok (.iconst 5, 1) := by decide +kernel
theorem dX7_seed_6 : decode cX7_seed 6 = .ok (.invokevirtual 291, 3) := by decide +kernel
theorem dX7_seed_9 : decode cX7_seed 9 = .ok (.ifCond .lt 7, 3) := by decide +kernel
theorem dX7_seed_12 : decode cX7_seed 12 = .ok (.iconst 1, 1) := by decide +kernel
theorem dX7_seed_13 : decode cX7_seed 13 = .ok (.goto 4, 3) := by decide +kernel
theorem dX7_seed_16 : decode cX7_seed 16 = .ok (.iconst 0, 1) := by decide +kernel
theorem dX7_seed_17 : decode cX7_seed 17 = .ok (.ireturn, 1) := by decide +kernel
theorem dX7_seed_18 : decode cX7_seed 18 = .ok (.aload_n 0, 1) := by decide +kernel
theorem dX7_seed_19 : decode cX7_seed 19 = .ok (.iload_n 1, 1) := by decide +kernel
theorem dX7_seed_20 : decode cX7_seed 20 = .ok (.i2l, 1) := by decide +kernel
theorem dX7_seed_21 : decode cX7_seed 21 = .ok (.putfield 195, 3) := by decide +kernel
theorem dX7_seed_24 : decode cX7_seed 24 = .ok (.iconst 1, 1) := by decide +kernel
theorem dX7_seed_25 : decode cX7_seed 25 = .ok (.ireturn, 1) := by decide +kernel
set_option maxRecDepth 20000 in
theorem ggX7_kept_X7_is : GoodIn wsX7_kept wsX7_is := goodIn_r _ [9] rfl (by decide +kernel)
set_option maxRecDepth 20000 in
theorem gX7_kept_X7_is : GoodIn wsX7_kept (va_wsS RX7 381 yX7_is wsX7_is) := goodIn_app (goodIn_of _ (by decide +kernel)) ggX7_kept_X7_is
theorem dX7_kept_0 : decode cX7_kept 0 = .ok (.iload_n 1, 1) := by decide +kernel
theorem dX7_kept_1 : decode cX7_kept 1 = .ok (.iconst 0, 1) := by decide +kernel
theorem dX7_kept_2 : decode cX7_kept 2 = .ok (.aload_n 0, 1) := by decide +kernel
theorem dX7_kept_3 : decode cX7_kept 3 = .ok (.getfield 174, 3) := by decide +kernel
theorem dX7_kept_6 : decode cX7_kept 6 = .ok (.iconst 0, 1) := by decide +kernel
theorem dX7_kept_7 : decode cX7_kept 7 = .ok (.iaload, 1) := by decide +kernel
theorem dX7_kept_8 : decode cX7_kept 8 = .ok (.iconst 1, 1) := by decide +kernel
theorem dX7_kept_9 : decode cX7_kept 9 = .ok (.isub, 1) := by decide +kernel
theorem dX7_kept_10 : decode cX7_kept 10 = .ok (.invokestatic 381, 3) := by decide +kernel
theorem dX7_kept_13 : decode cX7_kept 13 = .ok (.ifCond .eq 12, 3) := by decide +kernel
theorem dX7_kept_16 : decode cX7_kept 16 = .ok (.iload_n 2, 1) := by decide +kernel
theorem dX7_kept_17 : decode cX7_kept 17 = .ok (.iconst 0, 1) := by decide +kernel
theorem dX7_kept_18 : decode cX7_kept 18 = .ok (.iconst 3, 1) := by decide +kernel
theorem dX7_kept_19 : decode cX7_kept 19 = .ok (.invokestatic 381, 3) := by decide +kernel
theorem dX7_kept_22 : decode cX7_kept 22 = .ok (.ifCond .ne 5, 3) := by decide +kernel
theorem dX7_kept_25 : decode cX7_kept 25 = .ok (.iconst (-1), 1) := by decide +kernel
theorem dX7_kept_26 : decode cX7_kept 26 = .ok (.ireturn, 1) := by decide +kernel
theorem dX7_kept_27 : decode cX7_kept 27 = .ok (.iload_n 2, 1) := by decide +kernel
theorem dX7_kept_28 : decode cX7_kept 28 = .ok (.ifCond .ne 12, 3) := by decide +kernel
theorem dX7_kept_31 : decode cX7_kept 31 = .ok (.aload_n 0, 1) := by decide +kernel
theorem dX7_kept_32 : decode cX7_kept 32 = .ok (.getfield 177, 3) := by decide +kernel
theorem dX7_kept_35 : decode cX7_kept 35 = .ok (.iload_n 1, 1) := by decide +kernel
theorem dX7_kept_36 : decode cX7_kept 36 = .ok (.iaload, 1) := by decide +kernel
theorem dX7_kept_37 : decode cX7_kept 37 = .ok (.goto 37, 3) := by decide +kernel
theorem dX7_kept_40 : decode cX7_kept 40 = .ok (.iload_n 2, 1) := by decide +kernel
theorem dX7_kept_41 : decode cX7_kept 41 = .ok (.iconst 1, 1) := by decide +kernel
theorem dX7_kept_42 : decode cX7_kept 42 = .ok (.if_icmp .ne 12, 3) := by decide +kernel
theorem dX7_kept_45 : decode cX7_kept 45 = .ok (.aload_n 0, 1) := by decide +kernel
theorem dX7_kept_46 : decode cX7_kept 46 = .ok (.getfield 180, 3) := by decide +kernel
theorem dX7_kept_49 : decode cX7_kept 49 = .ok (.iload_n 1, 1) := by decide +kernel
theorem dX7_kept_50 : decode cX7_kept 50 = .ok (.iaload, 1) := by decide +kernel
theorem dX7_kept_51 : decode cX7_kept 51 = .ok (.goto 23, 3) := by decide +kernel
theorem dX7_kept_54 : decode cX7_kept 54 = .ok (.iload_n 2, 1) := by decide +kernel
theorem dX7_kept_55 : decode cX7_kept 55 = .ok (.iconst 2, 1) := by decide +kernel
theorem dX7_kept_56 : decode cX7_kept 56 = .ok (.if_icmp .ne 12, 3) := by decide +kernel
theorem dX7_kept_59 : decode cX7_kept 59 = .ok (.aload_n 0, 1) := by decide +kernel
theorem dX7_kept_60 : decode cX7_kept 60 = .ok (.getfield 183, 3) := by decide +kernel
theorem dX7_kept_63 : decode cX7_kept 63 = .ok (.iload_n 1, 1) := by decide +kernel
theorem dX7_kept_64 : decode cX7_kept 64 = .ok (.iaload, 1) := by decide +kernel
theorem dX7_kept_65 : decode cX7_kept 65 = .ok (.goto 9, 3) := by decide +kernel
theorem dX7_kept_68 : decode cX7_kept 68 = .ok (.aload_n 0, 1) := by decide +kernel
theorem dX7_kept_69 : decode cX7_kept 69 = .ok (.getfield 186, 3) := by decide +kernel
theorem dX7_kept_72 : decode cX7_kept 72 = .ok (.iload_n 1, 1) := by decide +kernel
theorem dX7_kept_73 : decode cX7_kept 73 = .ok (.iaload, 1) := by decide +kernel
theorem dX7_kept_74 : decode cX7_kept 74 = .ok (.ireturn, 1) := by decide +kernel
set_option maxRecDepth 20000 in
theorem ggX7_areWishes_X7_isWish : GoodIn wsX7_areWishes wsX7_isWish := goodIn_r _ [6, 7, 8, 9, 10, 11, 12, 13, 14, 15, 16, 17, 18, 19, 20, 21, 22, 23, 24, 25, 26, 27, 28, 29, 30, 31, 32, 33, 34, 35, 36, 37, 38, 39, 40, 41, 42, 43, 44, 45, 46, 47, 48, 49, 50, 51, 52, 53, 54, 55, 56, 57, 58, 59, 60, 61, 62, 63, 64, 65, 66, 67, 68, 69, 70, 71, 72, 73, 74, 75, 76, 77, 78, 79, 80, 81, 82, 83, 84, 85, 86, 87, 88, 89, 90, 91, 92, 93, 94, 95, 96, 97, 98, 99, 100] rfl (by decide +kernel)
set_option maxRecDepth 20000 in
theorem gX7_areWishes_X7_isWish : GoodIn wsX7_areWishes (wsV RX7 547 RX7 yX7_isWish wsX7_isWish) := goodIn_app (goodIn_of _ (by decide +kernel)) ggX7_areWishes_X7_isWish
theorem dX7_areWishes_0 : decode cX7_areWishes 0 = .ok (.iconst 0, 1) := by decide +kernel
theorem dX7_areWishes_1 : decode cX7_areWishes 1 = .ok (.istore_n 3, 1) := by decide +kernel
theorem dX7_areWishes_2 : decode cX7_areWishes 2 = .ok (.iload_n 3, 1) := by decide +kernel
theorem dX7_areWishes_3 : decode cX7_areWishes 3 = .ok (.iload_n 1, 1) := by decide +kernel
theorem dX7_areWishes_4 : decode cX7_areWishes 4 = .ok (.if_icmp .ge 40, 3) := by decide +kernel
theorem dX7_areWishes_7 : decode cX7_areWishes 7 = .ok (.aload_n 0, 1) := by decide +kernel
theorem dX7_areWishes_8 : decode cX7_areWishes 8 = .ok (.aload_n 0, 1) := by decide +kernel
theorem dX7_areWishes_9 : decode cX7_areWishes 9 = .ok (.getfield 7, 3) := by decide +kernel
theorem dX7_areWishes_12 : decode cX7_areWishes 12 = .ok (.iload_n 3, 1) := by decide +kernel
theorem dX7_areWishes_13 : decode cX7_areWishes 13 = .ok (.iaload, 1) := by decide +kernel
theorem dX7_areWishes_14 : decode cX7_areWishes 14 = .ok (.invokevirtual 547, 3) := by decide +kernel
theorem dX7_areWishes_17 : decode cX7_areWishes 17 = .ok (.ifCond .ne 21, 3) := by decide +kernel
theorem dX7_areWishes_20 : decode cX7_areWishes 20 = .ok (.iload_n 2, 1) := by decide +kernel
theorem dX7_areWishes_21 : decode cX7_areWishes 21 = .ok (.ifCond .eq 15, 3) := by decide +kernel
theorem dX7_areWishes_24 : decode cX7_areWishes 24 = .ok (.aload_n 0, 1) := by decide +kernel
theorem dX7_areWishes_25 : decode cX7_areWishes 25 = .ok (.getfield 7, 3) := by decide +kernel
theorem dX7_areWishes_28 : decode cX7_areWishes 28 = .ok (.iload_n 3, 1) := by decide +kernel
theorem dX7_areWishes_29 : decode cX7_areWishes 29 = .ok (.iaload, 1) := by decide +kernel
theorem dX7_areWishes_30 : decode cX7_areWishes 30 = .ok (.sipush 255, 3) := by decide +kernel
theorem dX7_areWishes_33 : decode cX7_areWishes 33 = .ok (.if_icmp .eq 5, 3) := by decide +kernel
theorem dX7_areWishes_36 : decode cX7_areWishes 36 = .ok (.iconst 0, 1) := by decide +kernel
theorem dX7_areWishes_37 : decode cX7_areWishes 37 = .ok (.ireturn, 1) := by decide +kernel
theorem dX7_areWishes_38 : decode cX7_areWishes 38 = .ok (.iinc 3 1, 3) := by decide +kernel
theorem dX7_areWishes_41 : decode cX7_areWishes 41 = .ok (.goto (-39), 3) := by decide +kernel
theorem dX7_areWishes_44 : decode cX7_areWishes 44 = .ok (.iconst 1, 1) := by decide +kernel
theorem dX7_areWishes_45 : decode cX7_areWishes 45 = .ok (.ireturn, 1) := by decide +kernel
set_option maxRecDepth 20000 in
theorem ggX7_stepsOn_X7_dayEnds : GoodIn wsX7_stepsOn wsX7_dayEnds := goodIn_r _ [6, 7, 8, 9, 10, 11, 1, 12, 13, 14, 5, 15, 16, 17, 116, 117, 118, 119, 120, 121, 122, 123, 124, 125, 126, 127, 128, 129, 130, 131, 132, 133, 134, 135, 136, 137, 138, 139, 140, 141, 142, 143, 144, 145, 146, 147, 148, 149, 150, 151, 152, 153, 154, 155, 156, 157, 158, 159, 160, 161, 162, 163, 164, 165, 166, 167, 168, 169, 170, 171, 172, 173, 174, 175, 176, 177, 178, 179, 180, 181, 182, 183, 184, 185, 186, 187, 188, 189, 190, 191, 192, 193, 194, 195, 196, 197, 198, 199, 200, 201, 202, 203, 204, 205, 206, 207] rfl (by decide +kernel)
set_option maxRecDepth 20000 in
theorem gX7_stepsOn_X7_dayEnds : GoodIn wsX7_stepsOn (wsV RX7 575 RX7 yX7_dayEnds wsX7_dayEnds) := goodIn_app (goodIn_of _ (by decide +kernel)) ggX7_stepsOn_X7_dayEnds
set_option maxRecDepth 20000 in
theorem ggX7_stepsOn_X7_asksLayer : GoodIn wsX7_stepsOn wsX7_asksLayer := goodIn_r _ [21, 7, 8, 11, 1, 22, 23, 24, 5, 25, 26, 27, 28, 29, 116, 117, 118, 119, 120, 121, 122, 123, 124, 125, 126, 127, 128, 129, 130, 131, 132, 133, 134, 135, 136, 137, 138, 139, 140, 141, 142, 143, 144, 145, 146, 147, 148, 149, 150, 151, 152, 153, 154, 155, 156, 157, 158, 159, 160, 161, 162, 163, 164, 165, 166, 167, 168, 169, 170, 171, 172, 173, 174, 175, 176, 177, 178, 179, 180, 181, 182, 183, 184, 185, 186, 187, 188, 189, 190, 191, 192, 193, 194, 195, 196, 197, 198, 199, 200, 201, 202, 203, 204, 205, 206, 207] rfl (by decide +kernel)
set_option maxRecDepth 20000 in
theorem gX7_stepsOn_X7_asksLayer : GoodIn wsX7_stepsOn (wsV RX7 539 RX7 yX7_asksLayer wsX7_asksLayer) := goodIn_app (goodIn_of _ (by decide +kernel)) ggX7_stepsOn_X7_asksLayer
set_option maxRecDepth 20000 in
theorem ggX7_stepsOn_X7_whyNot : GoodIn wsX7_stepsOn wsX7_whyNot := goodIn_r _ [33, 10, 34, 26, 35, 36, 37, 38, 5, 39, 40, 41, 42, 43, 44, 45, 46, 47, 48, 49, 50, 51, 52, 53, 54, 55, 56, 57, 58, 59, 60, 61, 62, 63, 64, 65, 66, 67, 68, 69, 70, 71, 27, 28, 29, 72, 73, 74, 75, 16, 76, 77, 78, 79, 80, 81, 82, 83, 84, 85, 86, 87, 88, 89, 90, 91, 92, 93, 94, 95, 96, 97, 98, 99, 116, 117, 118, 119, 120, 121, 122, 123, 124, 125, 126, 127, 128, 129, 130, 131, 132, 133, 134, 135, 136, 137, 138, 139, 140, 141, 142, 143, 144, 145, 146, 147, 148, 149, 150, 151, 152, 153, 154, 155, 156, 157, 158, 159, 160, 161, 162, 163, 164, 165, 166, 167, 168, 169, 170, 171, 172, 173, 174, 175, 176, 177, 178, 179, 180, 181, 182, 183, 184, 185, 186, 187, 188, 189, 190, 191, 192, 193, 194, 195, 196, 197, 198, 199, 200, 201, 202, 203, 204, 205, 206, 207] rfl (by decide +kernel)
set_option maxRecDepth 20000 in
theorem gX7_stepsOn_X7_whyNot : GoodIn wsX7_stepsOn (wsV RX7 550 RX7 yX7_whyNot wsX7_whyNot) := goodIn_app (goodIn_of _ (by decide +kernel)) ggX7_stepsOn_X7_whyNot
set_option maxRecDepth 20000 in
theorem ggX7_stepsOn_X7_goes : GoodIn wsX7_stepsOn wsX7_goes := goodIn_r _ [103, 8, 7, 11, 104, 10, 105, 18, 19, 20, 5, 21, 1, 22, 23, 24, 25, 26, 27, 28, 29, 106, 107, 108, 109, 58, 110, 111, 61, 62, 63, 64, 65, 66, 67, 68, 69, 70, 71, 72, 73, 74, 75, 16, 76, 41, 42, 43, 77, 78, 79, 44, 45, 46, 47, 48, 49, 50, 51, 52, 53, 36, 37, 38, 39, 40, 80, 81, 82, 83, 84, 85, 86, 87, 88, 89, 90, 91, 92, 93, 112, 113, 114, 115, 35, 116, 117, 118, 119, 120, 121, 122, 123, 124, 125, 126, 127, 128, 129, 130, 131, 132, 133, 134, 135, 136, 137, 138, 139, 140, 141, 142, 143, 144, 145, 146, 147, 148, 149, 150, 151, 152, 153, 154, 155, 156, 157, 158, 159, 160, 161, 162, 163, 164, 165, 166, 167, 168, 169, 170, 171, 172, 173, 174, 175, 176, 177, 178, 179, 180, 181, 182, 183, 184, 185, 186, 187, 188, 189, 190, 191, 192, 193, 194, 195, 196, 197, 198, 199, 200, 201, 202, 203, 204, 205, 206, 207] rfl (by decide +kernel)
set_option maxRecDepth 20000 in
theorem gX7_stepsOn_X7_goes : GoodIn wsX7_stepsOn (wsV RX7 565 RX7 yX7_goes wsX7_goes) := goodIn_app (goodIn_of _ (by decide +kernel)) ggX7_stepsOn_X7_goes
theorem dX7_stepsOn_0 : decode cX7_stepsOn 0 = .ok (.iload_n 1, 1) := by decide +kernel
theorem dX7_stepsOn_1 : decode cX7_stepsOn 1 = .ok (.sipush 255, 3) := by decide +kernel
theorem dX7_stepsOn_4 : decode cX7_stepsOn 4 = .ok (.if_icmp .ne 25, 3) := by decide +kernel
theorem dX7_stepsOn_7 : decode cX7_stepsOn 7 = .ok (.aload_n 0, 1) := by decide +kernel
theorem dX7_stepsOn_8 : decode cX7_stepsOn 8 = .ok (.getfield 171, 3) := by decide +kernel
theorem dX7_stepsOn_11 : decode cX7_stepsOn 11 = .ok (.iconst 1, 1) := by decide +kernel
theorem dX7_stepsOn_12 : decode cX7_stepsOn 12 = .ok (.iaload, 1) := by decide +kernel
theorem dX7_stepsOn_13 : decode cX7_stepsOn 13 = .ok (.sipush 9999, 3) := by decide +kernel
theorem dX7_stepsOn_16 : decode cX7_stepsOn 16 = .ok (.if_icmp .ne 6, 3) := by decide +kernel
theorem dX7_stepsOn_19 : decode cX7_stepsOn 19 = .ok (.bipush 7, 2) := by decide +kernel
theorem dX7_stepsOn_21 : decode cX7_stepsOn 21 = .ok (.ireturn, 1) := by decide +kernel
theorem dX7_stepsOn_22 : decode cX7_stepsOn 22 = .ok (.aload_n 0, 1) := by decide +kernel
theorem dX7_stepsOn_23 : decode cX7_stepsOn 23 = .ok (.iconst 1, 1) := by decide +kernel
theorem dX7_stepsOn_24 : decode cX7_stepsOn 24 = .ok (.invokevirtual 575, 3) := by decide +kernel
theorem dX7_stepsOn_27 : decode cX7_stepsOn 27 = .ok (.iconst 0, 1) := by decide +kernel
theorem dX7_stepsOn_28 : decode cX7_stepsOn 28 = .ok (.ireturn, 1) := by decide +kernel
theorem dX7_stepsOn_29 : decode cX7_stepsOn 29 = .ok (.aload_n 0, 1) := by decide +kernel
theorem dX7_stepsOn_30 : decode cX7_stepsOn 30 = .ok (.iconst 1, 1) := by decide +kernel
theorem dX7_stepsOn_31 : decode cX7_stepsOn 31 = .ok (.invokevirtual 539, 3) := by decide +kernel
theorem dX7_stepsOn_34 : decode cX7_stepsOn 34 = .ok (.aload_n 0, 1) := by decide +kernel
theorem dX7_stepsOn_35 : decode cX7_stepsOn 35 = .ok (.iload_n 1, 1) := by decide +kernel
theorem dX7_stepsOn_36 : decode cX7_stepsOn 36 = .ok (.invokevirtual 550, 3) := by decide +kernel
theorem dX7_stepsOn_39 : decode cX7_stepsOn 39 = .ok (.istore_n 2, 1) := by decide +kernel
theorem dX7_stepsOn_40 : decode cX7_stepsOn 40 = .ok (.iload_n 2, 1) := by decide +kernel
theorem dX7_stepsOn_41 : decode cX7_stepsOn 41 = .ok (.ifCond .eq 5, 3) := by decide +kernel
theorem dX7_stepsOn_44 : decode cX7_stepsOn 44 = .ok (.iload_n 2, 1) := by decide +kernel
theorem dX7_stepsOn_45 : decode cX7_stepsOn 45 = .ok (.ireturn, 1) := by decide +kernel
theorem dX7_stepsOn_46 : decode cX7_stepsOn 46 = .ok (.aload_n 0, 1) := by decide +kernel
theorem dX7_stepsOn_47 : decode cX7_stepsOn 47 = .ok (.iconst 1, 1) := by decide +kernel
theorem dX7_stepsOn_48 : decode cX7_stepsOn 48 = .ok (.iload_n 1, 1) := by decide +kernel
theorem dX7_stepsOn_49 : decode cX7_stepsOn 49 = .ok (.invokevirtual 565, 3) := by decide +kernel
theorem dX7_stepsOn_52 : decode cX7_stepsOn 52 = .ok (.ifCond .eq 8, 3) := by decide +kernel
theorem dX7_stepsOn_55 : decode cX7_stepsOn 55 = .ok (.bipush 6, 2) := by decide +kernel
theorem dX7_stepsOn_57 : decode cX7_stepsOn 57 = .ok (.goto 4, 3) := by decide +kernel
theorem dX7_stepsOn_60 : decode cX7_stepsOn 60 = .ok (.iconst 0, 1) := by decide +kernel
theorem dX7_stepsOn_61 : decode cX7_stepsOn 61 = .ok (.ireturn, 1) := by decide +kernel
theorem dX7_remembers_0 : decode cX7_remembers 0 = .ok (.aload_n 0, 1) := by decide +kernel
theorem dX7_remembers_1 : decode cX7_remembers 1 = .ok (.iload_n 1, 1) := by decide +kernel
theorem dX7_remembers_2 : decode cX7_remembers 2 = .ok (.putfield 216, 3) := by decide +kernel
theorem dX7_remembers_5 : decode cX7_remembers 5 = .ok (.aload_n 0, 1) := by decide +kernel
theorem dX7_remembers_6 : decode cX7_remembers 6 = .ok (.aload_n 0, 1) := by decide +kernel
theorem dX7_remembers_7 : decode cX7_remembers 7 = .ok (.getfield 162, 3) := by decide +kernel
theorem dX7_remembers_10 : decode cX7_remembers 10 = .ok (.iconst 1, 1) := by decide +kernel
theorem dX7_remembers_11 : decode cX7_remembers 11 = .ok (.iaload, 1) := by decide +kernel
theorem dX7_remembers_12 : decode cX7_remembers 12 = .ok (.putfield 219, 3) := by decide +kernel
theorem dX7_remembers_15 : decode cX7_remembers 15 = .ok (.aload_n 0, 1) := by decide +kernel
theorem dX7_remembers_16 : decode cX7_remembers 16 = .ok (.aload_n 0, 1) := by decide +kernel
theorem dX7_remembers_17 : decode cX7_remembers 17 = .ok (.getfield 165, 3) := by decide +kernel
theorem dX7_remembers_20 : decode cX7_remembers 20 = .ok (.iconst 1, 1) := by decide +kernel
theorem dX7_remembers_21 : decode cX7_remembers 21 = .ok (.iaload, 1) := by decide +kernel
theorem dX7_remembers_22 : decode cX7_remembers 22 = .ok (.putfield 222, 3) := by decide +kernel
theorem dX7_remembers_25 : decode cX7_remembers 25 = .ok (.aload_n 0, 1) := by decide +kernel
theorem dX7_remembers_26 : decode cX7_remembers 26 = .ok (.aload_n 0, 1) := by decide +kernel
theorem dX7_remembers_27 : decode cX7_remembers 27 = .ok (.getfield 171, 3) := by decide +kernel
theorem dX7_remembers_30 : decode cX7_remembers 30 = .ok (.iconst 1, 1) := by decide +kernel
theorem dX7_remembers_31 : decode cX7_remembers 31 = .ok (.iaload, 1) := by decide +kernel
theorem dX7_remembers_32 : decode cX7_remembers 32 = .ok (.putfield 225, 3) := by decide +kernel
theorem dX7_remembers_35 : decode cX7_remembers 35 = .ok (.aload_n 0, 1) := by decide +kernel
theorem dX7_remembers_36 : decode cX7_remembers 36 = .ok (.aload_n 0, 1) := by decide +kernel
theorem dX7_remembers_37 : decode cX7_remembers 37 = .ok (.getfield 222, 3) := by decide +kernel
theorem dX7_remembers_40 : decode cX7_remembers 40 = .ok (.aload_n 0, 1) := by decide +kernel
theorem dX7_remembers_41 : decode cX7_remembers 41 = .ok (.getfield 228, 3) := by decide +kernel
theorem dX7_remembers_44 : decode cX7_remembers 44 = .ok (.if_icmp .le 10, 3) := by decide +kernel
theorem dX7_remembers_47 : decode cX7_remembers 47 = .ok (.aload_n 0, 1) := by decide +kernel
theorem dX7_remembers_48 : decode cX7_remembers 48 = .ok (.getfield 222, 3) := by decide +kernel
theorem dX7_remembers_51 : decode cX7_remembers 51 = .ok (.goto 7, 3) := by decide +kernel
theorem dX7_remembers_54 : decode cX7_remembers 54 = .ok (.aload_n 0, 1) := by decide +kernel
theorem dX7_remembers_55 : decode cX7_remembers 55 = .ok (.getfield 228, 3) := by decide +kernel
theorem dX7_remembers_58 : decode cX7_remembers 58 = .ok (.putfield 228, 3) := by decide +kernel
theorem dX7_remembers_61 : decode cX7_remembers 61 = .ok (.return_, 1) := by decide +kernel
set_option maxRecDepth 20000 in
theorem ggX7_row_X7_areWishes : GoodIn wsX7_row wsX7_areWishes := goodIn_r _ [9, 3, 10, 11, 12, 8, 13, 14, 15, 154, 155, 156, 157, 158, 159, 160, 161, 162, 163, 164, 165, 166, 167, 168, 169, 170, 171, 172, 173, 174, 175, 176, 177, 178, 179, 180, 181, 182, 183, 184, 185, 186, 187, 188, 189, 190, 191, 192, 193, 194, 195, 196, 197, 198, 199, 200, 201, 202, 203, 204, 205, 206, 207, 208, 209, 210, 211, 212, 213, 214, 215, 216, 217, 218, 219, 220, 221, 222, 223, 224, 225, 226, 227, 228, 229, 230, 231, 232, 233, 234, 235, 236, 237, 238, 239, 240, 241, 242, 243, 244, 245] rfl (by decide +kernel)
set_option maxRecDepth 20000 in
theorem gX7_row_X7_areWishes : GoodIn wsX7_row (wsV RX7 592 RX7 yX7_areWishes wsX7_areWishes) := goodIn_app (goodIn_of _ (by decide +kernel)) ggX7_row_X7_areWishes
set_option maxRecDepth 20000 in
theorem ggX7_row_X7_refuses : GoodIn wsX7_row wsX7_refuses := goodIn_r _ [19, 20, 154, 155, 156, 157, 158, 159, 160, 161, 162, 163, 164, 165, 166, 167, 168, 169, 170, 171, 172, 173, 174, 175, 176, 177, 178, 179, 180, 181, 182, 183, 184, 185, 186, 187, 188, 189, 190, 191, 192, 193, 194, 195, 196, 197, 198, 199, 200, 201, 202, 203, 204, 205, 206, 207, 208, 209, 210, 211, 212, 213, 214, 215, 216, 217, 218, 219, 220, 221, 222, 223, 224, 225, 226, 227, 228, 229, 230, 231, 232, 233, 234, 235, 236, 237, 238, 239, 240, 241, 242, 243, 244, 245] rfl (by decide +kernel)
set_option maxRecDepth 20000 in
theorem gX7_row_X7_refuses : GoodIn wsX7_row (wsV RX7 291 RX7 yX7_refuses wsX7_refuses) := goodIn_app (goodIn_of _ (by decide +kernel)) ggX7_row_X7_refuses
set_option maxRecDepth 20000 in
theorem ggX7_row_X7_copies : GoodIn wsX7_row wsX7_copies := goodIn_r _ [24, 25, 26, 27, 28, 29, 30, 31, 32, 33, 154, 155, 156, 157, 158, 159, 160, 161, 162, 163, 164, 165, 166, 167, 168, 169, 170, 171, 172, 173, 174, 175, 176, 177, 178, 179, 180, 181, 182, 183, 184, 185, 186, 187, 188, 189, 190, 191, 192, 193, 194, 195, 196, 197, 198, 199, 200, 201, 202, 203, 204, 205, 206, 207, 208, 209, 210, 211, 212, 213, 214, 215, 216, 217, 218, 219, 220, 221, 222, 223, 224, 225, 226, 227, 228, 229, 230, 231, 232, 233, 234, 235, 236, 237, 238, 239, 240, 241, 242, 243, 244, 245] rfl (by decide +kernel)
set_option maxRecDepth 20000 in
theorem gX7_row_X7_copies : GoodIn wsX7_row (wsV RX7 480 RX7 yX7_copies wsX7_copies) := goodIn_app (goodIn_of _ (by decide +kernel)) ggX7_row_X7_copies
set_option maxRecDepth 20000 in
theorem ggX7_row_X7_remembers : GoodIn wsX7_row wsX7_remembers := goodIn_r _ [37, 4, 25, 38, 26, 39, 28, 40, 2, 154, 155, 156, 157, 158, 159, 160, 161, 162, 163, 164, 165, 166, 167, 168, 169, 170, 171, 172, 173, 174, 175, 176, 177, 178, 179, 180, 181, 182, 183, 184, 185, 186, 187, 188, 189, 190, 191, 192, 193, 194, 195, 196, 197, 198, 199, 200, 201, 202, 203, 204, 205, 206, 207, 208, 209, 210, 211, 212, 213, 214, 215, 216, 217, 218, 219, 220, 221, 222, 223, 224, 225, 226, 227, 228, 229, 230, 231, 232, 233, 234, 235, 236, 237, 238, 239, 240, 241, 242, 243, 244, 245] rfl (by decide +kernel)
set_option maxRecDepth 20000 in
theorem gX7_row_X7_remembers : GoodIn wsX7_row (wsV RX7 596 RX7 yX7_remembers wsX7_remembers) := goodIn_app (goodIn_of _ (by decide +kernel)) ggX7_row_X7_remembers
set_option maxRecDepth 20000 in
theorem ggX7_row_X7_stepsOn : GoodIn wsX7_row wsX7_stepsOn := goodIn_r _ [44, 28, 45, 46, 47, 8, 48, 25, 26, 49, 15, 27, 50, 51, 52, 53, 54, 55, 56, 57, 58, 59, 60, 61, 62, 63, 64, 65, 66, 67, 68, 69, 70, 71, 72, 73, 74, 75, 76, 77, 78, 79, 80, 81, 82, 83, 84, 85, 86, 87, 88, 89, 90, 91, 92, 93, 94, 95, 96, 97, 98, 99, 100, 101, 102, 103, 104, 105, 106, 107, 108, 109, 110, 111, 112, 113, 114, 115, 116, 117, 118, 119, 120, 121, 122, 123, 124, 125, 126, 127, 128, 129, 130, 131, 132, 133, 134, 135, 136, 137, 138, 139, 140, 141, 142, 143, 144, 145, 146, 147, 148, 149, 150, 151, 152, 153, 154, 155, 156, 157, 158, 159, 160, 161, 162, 163, 164, 165, 166, 167, 168, 169, 170, 171, 172, 173, 174, 175, 176, 177, 178, 179, 180, 181, 182, 183, 184, 185, 186, 187, 188, 189, 190, 191, 192, 193, 194, 195, 196, 197, 198, 199, 200, 201, 202, 203, 204, 205, 206, 207, 208, 209, 210, 211, 212, 213, 214, 215, 216, 217, 218, 219, 220, 221, 222, 223, 224, 225, 226, 227, 228, 229, 230, 231, 232, 233, 234, 235, 236, 237, 238, 239, 240, 241, 242, 243, 244, 245] rfl (by decide +kernel)
set_option maxRecDepth 20000 in
theorem gX7_row_X7_stepsOn : GoodIn wsX7_row (wsV RX7 599 RX7 yX7_stepsOn wsX7_stepsOn) := goodIn_app (goodIn_of _ (by decide +kernel)) ggX7_row_X7_stepsOn
theorem dX7_row_0 : decode cX7_row 0 = .ok (.aload_n 0, 1) := by decide +kernel
theorem dX7_row_1 : decode cX7_row 1 = .ok (.getfield 13, 3) := by decide +kernel
theorem dX7_row_4 : decode cX7_row 4 = .ok (.istore_n 1, 1) := by decide +kernel
theorem dX7_row_5 : decode cX7_row 5 = .ok (.aload_n 0, 1) := by decide +kernel
theorem dX7_row_6 : decode cX7_row 6 = .ok (.iconst 0, 1) := by decide +kernel
theorem dX7_row_7 : decode cX7_row 7 = .ok (.putfield 13, 3) := by decide +kernel
theorem dX7_row_10 : decode cX7_row 10 = .ok (.iload_n 1, 1) := by decide +kernel
theorem dX7_row_11 : decode cX7_row 11 = .ok (.bipush 40, 2) := by decide +kernel
theorem dX7_row_13 : decode cX7_row 13 = .ok (.if_icmp .gt 12, 3) := by decide +kernel
theorem dX7_row_16 : decode cX7_row 16 = .ok (.aload_n 0, 1) := by decide +kernel
theorem dX7_row_17 : decode cX7_row 17 = .ok (.iload_n 1, 1) := by decide +kernel
theorem dX7_row_18 : decode cX7_row 18 = .ok (.iconst 1, 1) := by decide +kernel
theorem dX7_row_19 : decode cX7_row 19 = .ok (.invokevirtual 592, 3) := by decide +kernel
theorem dX7_row_22 : decode cX7_row 22 = .ok (.ifCond .ne 9, 3) := by decide +kernel
theorem dX7_row_25 : decode cX7_row 25 = .ok (.aload_n 0, 1) := by decide +kernel
theorem dX7_row_26 : decode cX7_row 26 = .ok (.iconst 5, 1) := by decide +kernel
theorem dX7_row_27 : decode cX7_row 27 = .ok (.invokevirtual 291, 3) := by decide +kernel
theorem dX7_row_30 : decode cX7_row 30 = .ok (.ireturn, 1) := by decide +kernel
theorem dX7_row_31 : decode cX7_row 31 = .ok (.aload_n 0, 1) := by decide +kernel
theorem dX7_row_32 : decode cX7_row 32 = .ok (.iconst 1, 1) := by decide +kernel
theorem dX7_row_33 : decode cX7_row 33 = .ok (.iconst 0, 1) := by decide +kernel
theorem dX7_row_34 : decode cX7_row 34 = .ok (.invokevirtual 480, 3) := by decide +kernel
theorem dX7_row_37 : decode cX7_row 37 = .ok (.aload_n 0, 1) := by decide +kernel
theorem dX7_row_38 : decode cX7_row 38 = .ok (.iconst 0, 1) := by decide +kernel
theorem dX7_row_39 : decode cX7_row 39 = .ok (.putfield 228, 3) := by decide +kernel
theorem dX7_row_42 : decode cX7_row 42 = .ok (.aload_n 0, 1) := by decide +kernel
theorem dX7_row_43 : decode cX7_row 43 = .ok (.iconst 0, 1) := by decide +kernel
theorem dX7_row_44 : decode cX7_row 44 = .ok (.invokevirtual 596, 3) := by decide +kernel
theorem dX7_row_47 : decode cX7_row 47 = .ok (.iconst 0, 1) := by decide +kernel
theorem dX7_row_48 : decode cX7_row 48 = .ok (.istore_n 2, 1) := by decide +kernel
theorem dX7_row_49 : decode cX7_row 49 = .ok (.iconst 1, 1) := by decide +kernel
theorem dX7_row_50 : decode cX7_row 50 = .ok (.istore_n 3, 1) := by decide +kernel
theorem dX7_row_51 : decode cX7_row 51 = .ok (.iload_n 2, 1) := by decide +kernel
theorem dX7_row_52 : decode cX7_row 52 = .ok (.iload_n 1, 1) := by decide +kernel
theorem dX7_row_53 : decode cX7_row 53 = .ok (.if_icmp .ge 54, 3) := by decide +kernel
theorem dX7_row_56 : decode cX7_row 56 = .ok (.iload_n 3, 1) := by decide +kernel
theorem dX7_row_57 : decode cX7_row 57 = .ok (.ifCond .eq 50, 3) := by decide +kernel
theorem dX7_row_60 : decode cX7_row 60 = .ok (.aload_n 0, 1) := by decide +kernel
theorem dX7_row_61 : decode cX7_row 61 = .ok (.aload_n 0, 1) := by decide +kernel
theorem dX7_row_62 : decode cX7_row 62 = .ok (.getfield 7, 3) := by decide +kernel
theorem dX7_row_65 : decode cX7_row 65 = .ok (.iload_n 2, 1) := by decide +kernel
theorem dX7_row_66 : decode cX7_row 66 = .ok (.iaload, 1) := by decide +kernel
theorem dX7_row_67 : decode cX7_row 67 = .ok (.invokevirtual 599, 3) := by decide +kernel
theorem dX7_row_70 : decode cX7_row 70 = .ok (.istore 4, 2) := by decide +kernel
theorem dX7_row_72 : decode cX7_row 72 = .ok (.iload 4, 2) := by decide +kernel
theorem dX7_row_74 : decode cX7_row 74 = .ok (.ifCond .ne 7, 3) := by decide +kernel
theorem dX7_row_77 : decode cX7_row 77 = .ok (.iconst 1, 1) := by decide +kernel
theorem dX7_row_78 : decode cX7_row 78 = .ok (.goto 4, 3) := by decide +kernel
theorem dX7_row_81 : decode cX7_row 81 = .ok (.iconst 0, 1) := by decide +kernel
theorem dX7_row_82 : decode cX7_row 82 = .ok (.istore_n 3, 1) := by decide +kernel
theorem dX7_row_83 : decode cX7_row 83 = .ok (.iload_n 3, 1) := by decide +kernel
theorem dX7_row_84 : decode cX7_row 84 = .ok (.ifCond .eq 14, 3) := by decide +kernel
theorem dX7_row_87 : decode cX7_row 87 = .ok (.aload_n 0, 1) := by decide +kernel
theorem dX7_row_88 : decode cX7_row 88 = .ok (.iconst 0, 1) := by decide +kernel
theorem dX7_row_89 : decode cX7_row 89 = .ok (.invokevirtual 596, 3) := by decide +kernel
theorem dX7_row_92 : decode cX7_row 92 = .ok (.iinc 2 1, 3) := by decide +kernel
theorem dX7_row_95 : decode cX7_row 95 = .ok (.goto 9, 3) := by decide +kernel
theorem dX7_row_98 : decode cX7_row 98 = .ok (.aload_n 0, 1) := by decide +kernel
theorem dX7_row_99 : decode cX7_row 99 = .ok (.iload 4, 2) := by decide +kernel
theorem dX7_row_101 : decode cX7_row 101 = .ok (.putfield 216, 3) := by decide +kernel
theorem dX7_row_104 : decode cX7_row 104 = .ok (.goto (-53), 3) := by decide +kernel
theorem dX7_row_107 : decode cX7_row 107 = .ok (.iload_n 2, 1) := by decide +kernel
theorem dX7_row_108 : decode cX7_row 108 = .ok (.ireturn, 1) := by decide +kernel
theorem dX7_went_0 : decode cX7_went 0 = .ok (.aload_n 0, 1) := by decide +kernel
theorem dX7_went_1 : decode cX7_went 1 = .ok (.getfield 216, 3) := by decide +kernel
theorem dX7_went_4 : decode cX7_went 4 = .ok (.iconst (-1), 1) := by decide +kernel
theorem dX7_went_5 : decode cX7_went 5 = .ok (.if_icmp .ne 5, 3) := by decide +kernel
theorem dX7_went_8 : decode cX7_went 8 = .ok (.iconst (-1), 1) := by decide +kernel
theorem dX7_went_9 : decode cX7_went 9 = .ok (.ireturn, 1) := by decide +kernel
theorem dX7_went_10 : decode cX7_went 10 = .ok (.iload_n 1, 1) := by decide +kernel
theorem dX7_went_11 : decode cX7_went 11 = .ok (.ifCond .ne 10, 3) := by decide +kernel
theorem dX7_went_14 : decode cX7_went 14 = .ok (.aload_n 0, 1) := by decide +kernel
theorem dX7_went_15 : decode cX7_went 15 = .ok (.getfield 216, 3) := by decide +kernel
theorem dX7_went_18 : decode cX7_went 18 = .ok (.goto 52, 3) := by decide +kernel
theorem dX7_went_21 : decode cX7_went 21 = .ok (.iload_n 1, 1) := by decide +kernel
theorem dX7_went_22 : decode cX7_went 22 = .ok (.iconst 1, 1) := by decide +kernel
theorem dX7_went_23 : decode cX7_went 23 = .ok (.if_icmp .ne 10, 3) := by decide +kernel
theorem dX7_went_26 : decode cX7_went 26 = .ok (.aload_n 0, 1) := by decide +kernel
theorem dX7_went_27 : decode cX7_went 27 = .ok (.getfield 219, 3) := by decide +kernel
theorem dX7_went_30 : decode cX7_went 30 = .ok (.goto 40, 3) := by decide +kernel
theorem dX7_went_33 : decode cX7_went 33 = .ok (.iload_n 1, 1) := by decide +kernel
theorem dX7_went_34 : decode cX7_went 34 = .ok (.iconst 2, 1) := by decide +kernel
theorem dX7_went_35 : decode cX7_went 35 = .ok (.if_icmp .ne 10, 3) := by decide +kernel
theorem dX7_went_38 : decode cX7_went 38 = .ok (.aload_n 0, 1) := by decide +kernel
theorem dX7_went_39 : decode cX7_went 39 = .ok (.getfield 222, 3) := by decide +kernel
theorem dX7_went_42 : decode cX7_went 42 = .ok (.goto 28, 3) := by decide +kernel
theorem dX7_went_45 : decode cX7_went 45 = .ok (.iload_n 1, 1) := by decide +kernel
theorem dX7_went_46 : decode cX7_went 46 = .ok (.iconst 3, 1) := by decide +kernel
theorem dX7_went_47 : decode cX7_went 47 = .ok (.if_icmp .ne 10, 3) := by decide +kernel
theorem dX7_went_50 : decode cX7_went 50 = .ok (.aload_n 0, 1) := by decide +kernel
theorem dX7_went_51 : decode cX7_went 51 = .ok (.getfield 225, 3) := by decide +kernel
theorem dX7_went_54 : decode cX7_went 54 = .ok (.goto 16, 3) := by decide +kernel
theorem dX7_went_57 : decode cX7_went 57 = .ok (.iload_n 1, 1) := by decide +kernel
theorem dX7_went_58 : decode cX7_went 58 = .ok (.iconst 4, 1) := by decide +kernel
theorem dX7_went_59 : decode cX7_went 59 = .ok (.if_icmp .ne 10, 3) := by decide +kernel
theorem dX7_went_62 : decode cX7_went 62 = .ok (.aload_n 0, 1) := by decide +kernel
theorem dX7_went_63 : decode cX7_went 63 = .ok (.getfield 228, 3) := by decide +kernel
theorem dX7_went_66 : decode cX7_went 66 = .ok (.goto 4, 3) := by decide +kernel
theorem dX7_went_69 : decode cX7_went 69 = .ok (.iconst (-1), 1) := by decide +kernel
theorem dX7_went_70 : decode cX7_went 70 = .ok (.ireturn, 1) := by decide +kernel
set_option maxRecDepth 20000 in
theorem ggX7_climbsFrom_X7_asks : GoodIn wsX7_climbsFrom wsX7_asks := goodIn_r _ [13, 14, 15, 16, 17, 99, 100, 101, 102, 103, 104, 105, 106, 107, 108, 109, 110, 111, 112, 113, 114, 115, 116, 117, 118, 119, 120, 121, 122, 123, 124, 125, 126, 127, 128, 129, 130, 131, 132, 133, 134, 135, 136, 137, 138, 139, 140, 141, 142, 143, 144, 145, 146, 147, 148, 149, 150, 151, 152, 153, 154, 155, 156, 157, 158, 159, 160, 161, 162, 163, 164, 165, 166, 167, 168, 169, 170, 171, 172, 173, 174, 175, 176, 177, 178, 179, 180, 181, 182, 183, 184, 185, 186, 187, 188, 189, 190] rfl (by decide +kernel)
set_option maxRecDepth 20000 in
theorem gX7_climbsFrom_X7_asks : GoodIn wsX7_climbsFrom (wsV RX7 535 RX7 yX7_asks wsX7_asks) := goodIn_app (goodIn_of _ (by decide +kernel)) ggX7_climbsFrom_X7_asks
set_option maxRecDepth 20000 in
theorem ggX7_climbsFrom_X7_whyNot : GoodIn wsX7_climbsFrom wsX7_whyNot := goodIn_r _ [21, 3, 22, 14, 23, 24, 25, 26, 12, 27, 28, 29, 30, 31, 32, 33, 34, 35, 36, 37, 38, 39, 40, 41, 42, 43, 44, 45, 46, 47, 48, 49, 50, 51, 52, 53, 54, 55, 56, 57, 58, 59, 15, 16, 17, 60, 61, 62, 63, 64, 65, 66, 67, 68, 69, 70, 71, 72, 73, 74, 75, 76, 77, 78, 79, 80, 81, 82, 83, 84, 85, 86, 87, 88, 99, 100, 101, 102, 103, 104, 105, 106, 107, 108, 109, 110, 111, 112, 113, 114, 115, 116, 117, 118, 119, 120, 121, 122, 123, 124, 125, 126, 127, 128, 129, 130, 131, 132, 133, 134, 135, 136, 137, 138, 139, 140, 141, 142, 143, 144, 145, 146, 147, 148, 149, 150, 151, 152, 153, 154, 155, 156, 157, 158, 159, 160, 161, 162, 163, 164, 165, 166, 167, 168, 169, 170, 171, 172, 173, 174, 175, 176, 177, 178, 179, 180, 181, 182, 183, 184, 185, 186, 187, 188, 189, 190] rfl (by decide +kernel)
set_option maxRecDepth 20000 in
theorem gX7_climbsFrom_X7_whyNot : GoodIn wsX7_climbsFrom (wsV RX7 550 RX7 yX7_whyNot wsX7_whyNot) := goodIn_app (goodIn_of _ (by decide +kernel)) ggX7_climbsFrom_X7_whyNot
set_option maxRecDepth 20000 in
theorem ggX7_climbsFrom_X7_darkBy : GoodIn wsX7_climbsFrom wsX7_darkBy := goodIn_r _ [92, 46, 93, 3, 94, 49, 50, 51, 12, 52, 53, 54, 55, 56, 57, 58, 59, 14, 15, 16, 17, 60, 61, 62, 63, 64, 65, 29, 30, 31, 66, 67, 68, 32, 33, 34, 35, 36, 37, 38, 39, 40, 41, 24, 25, 26, 27, 28, 69, 70, 71, 72, 73, 74, 75, 76, 77, 78, 79, 80, 81, 82, 99, 100, 101, 102, 103, 104, 105, 106, 107, 108, 109, 110, 111, 112, 113, 114, 115, 116, 117, 118, 119, 120, 121, 122, 123, 124, 125, 126, 127, 128, 129, 130, 131, 132, 133, 134, 135, 136, 137, 138, 139, 140, 141, 142, 143, 144, 145, 146, 147, 148, 149, 150, 151, 152, 153, 154, 155, 156, 157, 158, 159, 160, 161, 162, 163, 164, 165, 166, 167, 168, 169, 170, 171, 172, 173, 174, 175, 176, 177, 178, 179, 180, 181, 182, 183, 184, 185, 186, 187, 188, 189, 190] rfl (by decide +kernel)
set_option maxRecDepth 20000 in
theorem gX7_climbsFrom_X7_darkBy : GoodIn wsX7_climbsFrom (wsV RX7 553 RX7 yX7_darkBy wsX7_darkBy) := goodIn_app (goodIn_of _ (by decide +kernel)) ggX7_climbsFrom_X7_darkBy
set_option maxRecDepth 20000 in
theorem ggX7_climbsFrom_X7_behind : GoodIn wsX7_climbsFrom wsX7_behind := goodIn_r _ [98, 23, 3, 24, 25, 26, 12, 27, 28, 99, 100, 101, 102, 103, 104, 105, 106, 107, 108, 109, 110, 111, 112, 113, 114, 115, 116, 117, 118, 119, 120, 121, 122, 123, 124, 125, 126, 127, 128, 129, 130, 131, 132, 133, 134, 135, 136, 137, 138, 139, 140, 141, 142, 143, 144, 145, 146, 147, 148, 149, 150, 151, 152, 153, 154, 155, 156, 157, 158, 159, 160, 161, 162, 163, 164, 165, 166, 167, 168, 169, 170, 171, 172, 173, 174, 175, 176, 177, 178, 179, 180, 181, 182, 183, 184, 185, 186, 187, 188, 189, 190] rfl (by decide +kernel)
set_option maxRecDepth 20000 in
theorem gX7_climbsFrom_X7_behind : GoodIn wsX7_climbsFrom (wsV RX7 556 RX7 yX7_behind wsX7_behind) := goodIn_app (goodIn_of _ (by decide +kernel)) ggX7_climbsFrom_X7_behind
theorem dX7_climbsFrom_0 : decode cX7_climbsFrom 0 = .ok (.aload_n 0, 1) := by decide +kernel
theorem dX7_climbsFrom_1 : decode cX7_climbsFrom 1 = .ok (.getfield 231, 3) := by decide +kernel
theorem dX7_climbsFrom_4 : decode cX7_climbsFrom 4 = .ok (.sipush 1024, 3) := by decide +kernel
theorem dX7_climbsFrom_7 : decode cX7_climbsFrom 7 = .ok (.iload_n 1, 1) := by decide +kernel
theorem dX7_climbsFrom_8 : decode cX7_climbsFrom 8 = .ok (.imul, 1) := by decide +kernel
theorem dX7_climbsFrom_9 : decode cX7_climbsFrom 9 = .ok (.iload_n 2, 1) := by decide +kernel
theorem dX7_climbsFrom_10 : decode cX7_climbsFrom 10 = .ok (.iadd, 1) := by decide +kernel
theorem dX7_climbsFrom_11 : decode cX7_climbsFrom 11 = .ok (.iaload, 1) := by decide +kernel
theorem dX7_climbsFrom_12 : decode cX7_climbsFrom 12 = .ok (.istore_n 3, 1) := by decide +kernel
theorem dX7_climbsFrom_13 : decode cX7_climbsFrom 13 = .ok (.iconst 0, 1) := by decide +kernel
theorem dX7_climbsFrom_14 : decode cX7_climbsFrom 14 = .ok (.istore 4, 2) := by decide +kernel
theorem dX7_climbsFrom_16 : decode cX7_climbsFrom 16 = .ok (.iload 4, 2) := by decide +kernel
theorem dX7_climbsFrom_18 : decode cX7_climbsFrom 18 = .ok (.aload_n 0, 1) := by decide +kernel
theorem dX7_climbsFrom_19 : decode cX7_climbsFrom 19 = .ok (.getfield 66, 3) := by decide +kernel
theorem dX7_climbsFrom_22 : decode cX7_climbsFrom 22 = .ok (.aload_n 0, 1) := by decide +kernel
theorem dX7_climbsFrom_23 : decode cX7_climbsFrom 23 = .ok (.getfield 51, 3) := by decide +kernel
theorem dX7_climbsFrom_26 : decode cX7_climbsFrom 26 = .ok (.iaload, 1) := by decide +kernel
theorem dX7_climbsFrom_27 : decode cX7_climbsFrom 27 = .ok (.if_icmp .ge 134, 3) := by decide +kernel
theorem dX7_climbsFrom_30 : decode cX7_climbsFrom 30 = .ok (.aload_n 0, 1) := by decide +kernel
theorem dX7_climbsFrom_31 : decode cX7_climbsFrom 31 = .ok (.iload_n 2, 1) := by decide +kernel
theorem dX7_climbsFrom_32 : decode cX7_climbsFrom 32 = .ok (.iload_n 3, 1) := by decide +kernel
theorem dX7_climbsFrom_33 : decode cX7_climbsFrom 33 = .ok (.aload_n 0, 1) := by decide +kernel
theorem dX7_climbsFrom_34 : decode cX7_climbsFrom 34 = .ok (.getfield 168, 3) := by decide +kernel
theorem dX7_climbsFrom_37 : decode cX7_climbsFrom 37 = .ok (.iconst 0, 1) := by decide +kernel
theorem dX7_climbsFrom_38 : decode cX7_climbsFrom 38 = .ok (.iaload, 1) := by decide +kernel
theorem dX7_climbsFrom_39 : decode cX7_climbsFrom 39 = .ok (.iload_n 1, 1) := by decide +kernel
theorem dX7_climbsFrom_40 : decode cX7_climbsFrom 40 = .ok (.iadd, 1) := by decide +kernel
theorem dX7_climbsFrom_41 : decode cX7_climbsFrom 41 = .ok (.aload_n 0, 1) := by decide +kernel
theorem dX7_climbsFrom_42 : decode cX7_climbsFrom 42 = .ok (.getfield 171, 3) := by decide +kernel
theorem dX7_climbsFrom_45 : decode cX7_climbsFrom 45 = .ok (.iconst 0, 1) := by decide +kernel
theorem dX7_climbsFrom_46 : decode cX7_climbsFrom 46 = .ok (.iaload, 1) := by decide +kernel
theorem dX7_climbsFrom_47 : decode cX7_climbsFrom 47 = .ok (.invokevirtual 535, 3) := by decide +kernel
theorem dX7_climbsFrom_50 : decode cX7_climbsFrom 50 = .ok (.aload_n 0, 1) := by decide +kernel
theorem dX7_climbsFrom_51 : decode cX7_climbsFrom 51 = .ok (.iload 4, 2) := by decide +kernel
theorem dX7_climbsFrom_53 : decode cX7_climbsFrom 53 = .ok (.invokevirtual 550, 3) := by decide +kernel
theorem dX7_climbsFrom_56 : decode cX7_climbsFrom 56 = .ok (.ifCond .eq 6, 3) := by decide +kernel
theorem dX7_climbsFrom_59 : decode cX7_climbsFrom 59 = .ok (.goto 96, 3) := by decide +kernel
theorem dX7_climbsFrom_62 : decode cX7_climbsFrom 62 = .ok (.iload_n 3, 1) := by decide +kernel
theorem dX7_climbsFrom_63 : decode cX7_climbsFrom 63 = .ok (.aload_n 0, 1) := by decide +kernel
theorem dX7_climbsFrom_64 : decode cX7_climbsFrom 64 = .ok (.iload 4, 2) := by decide +kernel
theorem dX7_climbsFrom_66 : decode cX7_climbsFrom 66 = .ok (.invokevirtual 553, 3) := by decide +kernel
theorem dX7_climbsFrom_69 : decode cX7_climbsFrom 69 = .ok (.iadd, 1) := by decide +kernel
theorem dX7_climbsFrom_70 : decode cX7_climbsFrom 70 = .ok (.istore 5, 2) := by decide +kernel
theorem dX7_climbsFrom_72 : decode cX7_climbsFrom 72 = .ok (.sipush 1024, 3) := by decide +kernel
theorem dX7_climbsFrom_75 : decode cX7_climbsFrom 75 = .ok (.iload_n 1, 1) := by decide +kernel
theorem dX7_climbsFrom_76 : decode cX7_climbsFrom 76 = .ok (.iconst 1, 1) := by decide +kernel
theorem dX7_climbsFrom_77 : decode cX7_climbsFrom 77 = .ok (.iadd, 1) := by decide +kernel
theorem dX7_climbsFrom_78 : decode cX7_climbsFrom 78 = .ok (.imul, 1) := by decide +kernel
theorem dX7_climbsFrom_79 : decode cX7_climbsFrom 79 = .ok (.aload_n 0, 1) := by decide +kernel
theorem dX7_climbsFrom_80 : decode cX7_climbsFrom 80 = .ok (.iload_n 2, 1) := by decide +kernel
theorem dX7_climbsFrom_81 : decode cX7_climbsFrom 81 = .ok (.iload 4, 2) := by decide +kernel
theorem dX7_climbsFrom_83 : decode cX7_climbsFrom 83 = .ok (.invokevirtual 556, 3) := by decide +kernel
theorem dX7_climbsFrom_86 : decode cX7_climbsFrom 86 = .ok (.iadd, 1) := by decide +kernel
theorem dX7_climbsFrom_87 : decode cX7_climbsFrom 87 = .ok (.istore 6, 2) := by decide +kernel
theorem dX7_climbsFrom_89 : decode cX7_climbsFrom 89 = .ok (.iload 5, 2) := by decide +kernel
theorem dX7_climbsFrom_91 : decode cX7_climbsFrom 91 = .ok (.aload_n 0, 1) := by decide +kernel
theorem dX7_climbsFrom_92 : decode cX7_climbsFrom 92 = .ok (.getfield 102, 3) := by decide +kernel
theorem dX7_climbsFrom_95 : decode cX7_climbsFrom 95 = .ok (.aload_n 0, 1) := by decide +kernel
theorem dX7_climbsFrom_96 : decode cX7_climbsFrom 96 = .ok (.getfield 51, 3) := by decide +kernel
theorem dX7_climbsFrom_99 : decode cX7_climbsFrom 99 = .ok (.iaload, 1) := by decide +kernel
theorem dX7_climbsFrom_100 : decode cX7_climbsFrom 100 = .ok (.if_icmp .gt 55, 3) := by decide +kernel
theorem dX7_climbsFrom_103 : decode cX7_climbsFrom 103 = .ok (.aload_n 0, 1) := by decide +kernel
theorem dX7_climbsFrom_104 : decode cX7_climbsFrom 104 = .ok (.getfield 231, 3) := by decide +kernel
theorem dX7_climbsFrom_107 : decode cX7_climbsFrom 107 = .ok (.iload 6, 2) := by decide +kernel
theorem dX7_climbsFrom_109 : decode cX7_climbsFrom 109 = .ok (.iaload, 1) := by decide +kernel
theorem dX7_climbsFrom_110 : decode cX7_climbsFrom 110 = .ok (.iconst (-1), 1) := by decide +kernel
theorem dX7_climbsFrom_111 : decode cX7_climbsFrom 111 = .ok (.if_icmp .eq 18, 3) := by decide +kernel
theorem dX7_climbsFrom_114 : decode cX7_climbsFrom 114 = .ok (.aload_n 0, 1) := by decide +kernel
theorem dX7_climbsFrom_115 : decode cX7_climbsFrom 115 = .ok (.getfield 231, 3) := by decide +kernel
theorem dX7_climbsFrom_118 : decode cX7_climbsFrom 118 = .ok (.iload 6, 2) := by decide +kernel
theorem dX7_climbsFrom_120 : decode cX7_climbsFrom 120 = .ok (.iaload, 1) := by decide +kernel
theorem dX7_climbsFrom_121 : decode cX7_climbsFrom 121 = .ok (.iload 5, 2) := by decide +kernel
theorem dX7_climbsFrom_123 : decode cX7_climbsFrom 123 = .ok (.if_icmp .gt 6, 3) := by decide +kernel
theorem dX7_climbsFrom_126 : decode cX7_climbsFrom 126 = .ok (.goto 29, 3) := by decide +kernel
theorem dX7_climbsFrom_129 : decode cX7_climbsFrom 129 = .ok (.aload_n 0, 1) := by decide +kernel
theorem dX7_climbsFrom_130 : decode cX7_climbsFrom 130 = .ok (.getfield 231, 3) := by decide +kernel
theorem dX7_climbsFrom_133 : decode cX7_climbsFrom 133 = .ok (.iload 6, 2) := by decide +kernel
theorem dX7_climbsFrom_135 : decode cX7_climbsFrom 135 = .ok (.iload 5, 2) := by decide +kernel
theorem dX7_climbsFrom_137 : decode cX7_climbsFrom 137 = .ok (.iastore, 1) := by decide +kernel
theorem dX7_climbsFrom_138 : decode cX7_climbsFrom 138 = .ok (.aload_n 0, 1) := by decide +kernel
theorem dX7_climbsFrom_139 : decode cX7_climbsFrom 139 = .ok (.getfield 234, 3) := by decide +kernel
theorem dX7_climbsFrom_142 : decode cX7_climbsFrom 142 = .ok (.iload 6, 2) := by decide +kernel
theorem dX7_climbsFrom_144 : decode cX7_climbsFrom 144 = .ok (.iload_n 2, 1) := by decide +kernel
theorem dX7_climbsFrom_145 : decode cX7_climbsFrom 145 = .ok (.iastore, 1) := by decide +kernel
theorem dX7_climbsFrom_146 : decode cX7_climbsFrom 146 = .ok (.aload_n 0, 1) := by decide +kernel
theorem dX7_climbsFrom_147 : decode cX7_climbsFrom 147 = .ok (.getfield 237, 3) := by decide +kernel
theorem dX7_climbsFrom_150 : decode cX7_climbsFrom 150 = .ok (.iload 6, 2) := by decide +kernel
theorem dX7_climbsFrom_152 : decode cX7_climbsFrom 152 = .ok (.iload 4, 2) := by decide +kernel
theorem dX7_climbsFrom_154 : decode cX7_climbsFrom 154 = .ok (.iastore, 1) := by decide +kernel
theorem dX7_climbsFrom_155 : decode cX7_climbsFrom 155 = .ok (.iinc 4 1, 3) := by decide +kernel
theorem dX7_climbsFrom_158 : decode cX7_climbsFrom 158 = .ok (.goto (-142), 3) := by decide +kernel
theorem dX7_climbsFrom_161 : decode cX7_climbsFrom 161 = .ok (.return_, 1) := by decide +kernel
set_option maxRecDepth 20000 in
theorem ggX7_climbs_X7_climbsFrom : GoodIn wsX7_climbs wsX7_climbsFrom := goodIn_r _ [10, 1, 11, 5, 12, 13, 14, 15, 16, 17, 18, 19, 9, 20, 21, 22, 23, 24, 25, 26, 27, 28, 29, 30, 31, 32, 33, 34, 35, 36, 37, 38, 39, 40, 41, 42, 43, 44, 45, 46, 47, 48, 49, 50, 51, 52, 53, 54, 55, 56, 57, 58, 59, 60, 61, 62, 63, 64, 65, 66, 67, 68, 69, 70, 4, 71, 72, 73, 74, 75, 76, 77, 78, 79, 80, 81, 82, 83, 84, 85, 86, 87, 88, 89, 90, 91, 92, 93, 94, 95, 96, 97, 98, 99, 100, 101, 102, 103, 104, 105, 106, 107, 108, 109, 110, 111, 112, 113, 114, 115, 116, 117, 118, 119, 120, 121, 122, 123, 124, 125, 126, 127, 128, 129, 130, 131, 132, 133, 134, 135, 136, 137, 138, 139, 140, 141, 142, 143, 144, 145, 146, 147, 148, 149, 150, 151, 152, 153, 154, 155, 156, 157, 158, 159, 160, 161, 162, 163, 164, 165, 166, 167, 168, 169, 170, 171, 172, 173, 174, 175, 176, 177, 178, 179, 180, 181, 182, 183, 184, 185, 186, 187, 188, 189, 190, 191, 192, 193, 194, 195, 196] rfl (by decide +kernel)
set_option maxRecDepth 20000 in
theorem gX7_climbs_X7_climbsFrom : GoodIn wsX7_climbs (wsV RX7 602 RX7 yX7_climbsFrom wsX7_climbsFrom) := goodIn_app (goodIn_of _ (by decide +kernel)) ggX7_climbs_X7_climbsFrom
theorem dX7_climbs_0 : decode cX7_climbs 0 = .ok (.iconst 0, 1) := by decide +kernel
theorem dX7_climbs_1 : decode cX7_climbs 1 = .ok (.istore_n 1, 1) := by decide +kernel
theorem dX7_climbs_2 : decode cX7_climbs 2 = .ok (.iload_n 1, 1) := by decide +kernel
theorem dX7_climbs_3 : decode cX7_climbs 3 = .ok (.sipush 9216, 3) := by decide +kernel
theorem dX7_climbs_6 : decode cX7_climbs 6 = .ok (.if_icmp .ge 16, 3) := by decide +kernel
theorem dX7_climbs_9 : decode cX7_climbs 9 = .ok (.aload_n 0, 1) := by decide +kernel
theorem dX7_climbs_10 : decode cX7_climbs 10 = .ok (.getfield 231, 3) := by decide +kernel
theorem dX7_climbs_13 : decode cX7_climbs 13 = .ok (.iload_n 1, 1) := by decide +kernel
theorem dX7_climbs_14 : decode cX7_climbs 14 = .ok (.iconst (-1), 1) := by decide +kernel
theorem dX7_climbs_15 : decode cX7_climbs 15 = .ok (.iastore, 1) := by decide +kernel
theorem dX7_climbs_16 : decode cX7_climbs 16 = .ok (.iinc 1 1, 3) := by decide +kernel
theorem dX7_climbs_19 : decode cX7_climbs 19 = .ok (.goto (-17), 3) := by decide +kernel
theorem dX7_climbs_22 : decode cX7_climbs 22 = .ok (.aload_n 0, 1) := by decide +kernel
theorem dX7_climbs_23 : decode cX7_climbs 23 = .ok (.getfield 231, 3) := by decide +kernel
theorem dX7_climbs_26 : decode cX7_climbs 26 = .ok (.aload_n 0, 1) := by decide +kernel
theorem dX7_climbs_27 : decode cX7_climbs 27 = .ok (.getfield 162, 3) := by decide +kernel
theorem dX7_climbs_30 : decode cX7_climbs 30 = .ok (.iconst 0, 1) := by decide +kernel
theorem dX7_climbs_31 : decode cX7_climbs 31 = .ok (.iaload, 1) := by decide +kernel
theorem dX7_climbs_32 : decode cX7_climbs 32 = .ok (.aload_n 0, 1) := by decide +kernel
theorem dX7_climbs_33 : decode cX7_climbs 33 = .ok (.getfield 165, 3) := by decide +kernel
theorem dX7_climbs_36 : decode cX7_climbs 36 = .ok (.iconst 0, 1) := by decide +kernel
theorem dX7_climbs_37 : decode cX7_climbs 37 = .ok (.iaload, 1) := by decide +kernel
theorem dX7_climbs_38 : decode cX7_climbs 38 = .ok (.iastore, 1) := by decide +kernel
theorem dX7_climbs_39 : decode cX7_climbs 39 = .ok (.iconst 0, 1) := by decide +kernel
theorem dX7_climbs_40 : decode cX7_climbs 40 = .ok (.istore_n 1, 1) := by decide +kernel
theorem dX7_climbs_41 : decode cX7_climbs 41 = .ok (.iload_n 1, 1) := by decide +kernel
theorem dX7_climbs_42 : decode cX7_climbs 42 = .ok (.bipush 8, 2) := by decide +kernel
theorem dX7_climbs_44 : decode cX7_climbs 44 = .ok (.if_icmp .ge 54, 3) := by decide +kernel
theorem dX7_climbs_47 : decode cX7_climbs 47 = .ok (.iconst 0, 1) := by decide +kernel
theorem dX7_climbs_48 : decode cX7_climbs 48 = .ok (.istore_n 2, 1) := by decide +kernel
theorem dX7_climbs_49 : decode cX7_climbs 49 = .ok (.iload_n 2, 1) := by decide +kernel
theorem dX7_climbs_50 : decode cX7_climbs 50 = .ok (.iconst 1, 1) := by decide +kernel
theorem dX7_climbs_51 : decode cX7_climbs 51 = .ok (.aload_n 0, 1) := by decide +kernel
theorem dX7_climbs_52 : decode cX7_climbs 52 = .ok (.getfield 54, 3) := by decide +kernel
theorem dX7_climbs_55 : decode cX7_climbs 55 = .ok (.aload_n 0, 1) := by decide +kernel
theorem dX7_climbs_56 : decode cX7_climbs 56 = .ok (.getfield 51, 3) := by decide +kernel
theorem dX7_climbs_59 : decode cX7_climbs 59 = .ok (.iaload, 1) := by decide +kernel
theorem dX7_climbs_60 : decode cX7_climbs 60 = .ok (.ishl, 1) := by decide +kernel
theorem dX7_climbs_61 : decode cX7_climbs 61 = .ok (.if_icmp .ge 31, 3) := by decide +kernel
theorem dX7_climbs_64 : decode cX7_climbs 64 = .ok (.aload_n 0, 1) := by decide +kernel
theorem dX7_climbs_65 : decode cX7_climbs 65 = .ok (.getfield 231, 3) := by decide +kernel
theorem dX7_climbs_68 : decode cX7_climbs 68 = .ok (.sipush 1024, 3) := by decide +kernel
theorem dX7_climbs_71 : decode cX7_climbs 71 = .ok (.iload_n 1, 1) := by decide +kernel
theorem dX7_climbs_72 : decode cX7_climbs 72 = .ok (.imul, 1) := by decide +kernel
theorem dX7_climbs_73 : decode cX7_climbs 73 = .ok (.iload_n 2, 1) := by decide +kernel
theorem dX7_climbs_74 : decode cX7_climbs 74 = .ok (.iadd, 1) := by decide +kernel
theorem dX7_climbs_75 : decode cX7_climbs 75 = .ok (.iaload, 1) := by decide +kernel
theorem dX7_climbs_76 : decode cX7_climbs 76 = .ok (.iconst (-1), 1) := by decide +kernel
theorem dX7_climbs_77 : decode cX7_climbs 77 = .ok (.if_icmp .eq 9, 3) := by decide +kernel
theorem dX7_climbs_80 : decode cX7_climbs 80 = .ok (.aload_n 0, 1) := by decide +kernel
theorem dX7_climbs_81 : decode cX7_climbs 81 = .ok (.iload_n 1, 1) := by decide +kernel
theorem dX7_climbs_82 : decode cX7_climbs 82 = .ok (.iload_n 2, 1) := by decide +kernel
theorem dX7_climbs_83 : decode cX7_climbs 83 = .ok (.invokevirtual 602, 3) := by decide +kernel
theorem dX7_climbs_86 : decode cX7_climbs 86 = .ok (.iinc 2 1, 3) := by decide +kernel
theorem dX7_climbs_89 : decode cX7_climbs 89 = .ok (.goto (-40), 3) := by decide +kernel
theorem dX7_climbs_92 : decode cX7_climbs 92 = .ok (.iinc 1 1, 3) := by decide +kernel
theorem dX7_climbs_95 : decode cX7_climbs 95 = .ok (.goto (-54), 3) := by decide +kernel
theorem dX7_climbs_98 : decode cX7_climbs 98 = .ok (.return_, 1) := by decide +kernel
set_option maxRecDepth 20000 in
theorem ggX7_ladder_X7_is : GoodIn wsX7_ladder wsX7_is := goodIn_r _ [7] rfl (by decide +kernel)
set_option maxRecDepth 20000 in
theorem gX7_ladder_X7_is : GoodIn wsX7_ladder (va_wsS RX7 381 yX7_is wsX7_is) := goodIn_app (goodIn_of _ (by decide +kernel)) ggX7_ladder_X7_is
set_option maxRecDepth 20000 in
theorem ggX7_ladder_X7_climbs : GoodIn wsX7_ladder wsX7_climbs := goodIn_r _ [11, 3, 12, 13, 1, 2, 14, 15, 16, 6, 17, 18, 19, 20, 21, 22, 23, 24, 25, 26, 27, 28, 29, 30, 31, 32, 33, 34, 35, 36, 37, 38, 39, 40, 41, 42, 43, 44, 45, 46, 47, 48, 49, 50, 51, 52, 53, 54, 55, 56, 57, 58, 59, 60, 61, 62, 63, 64, 65, 66, 67, 68, 69, 70, 71, 72, 73, 74, 75, 76, 77, 78, 79, 80, 81, 82, 83, 84, 85, 86, 87, 88, 89, 90, 91, 92, 93, 94, 95, 96, 97, 98, 99, 100, 101, 102, 103, 104, 105, 106, 107, 108, 109, 110, 111, 112, 113, 114, 115, 116, 117, 118, 119, 120, 121, 122, 123, 124, 125, 126, 127, 128, 129, 130, 131, 132, 133, 134, 135, 136, 137, 138, 139, 140, 141, 142, 143, 144, 145, 146, 147, 148, 149, 150, 151, 152, 153, 154, 155, 156, 157, 158, 159, 160, 161, 162, 163, 164, 165, 166, 167, 168, 169, 170, 171, 172, 173, 174, 175, 176, 177, 178, 179, 180, 181, 182, 183, 184, 185, 186, 187, 188, 189, 190, 191, 192, 193, 194, 195, 196, 197, 198, 199, 200, 201, 202, 203] rfl (by decide +kernel)
set_option maxRecDepth 20000 in
theorem gX7_ladder_X7_climbs : GoodIn wsX7_ladder (wsV RX7 605 RX7 yX7_climbs wsX7_climbs) := goodIn_app (goodIn_of _ (by decide +kernel)) ggX7_ladder_X7_climbs
theorem dX7_ladder_0 : decode cX7_ladder 0 = .ok (.iload_n 1, 1) := by decide +kernel
theorem dX7_ladder_1 : decode cX7_ladder 1 = .ok (.iconst 0, 1) := by decide +kernel
theorem dX7_ladder_2 : decode cX7_ladder 2 = .ok (.bipush 8, 2) := by decide +kernel
theorem dX7_ladder_4 : decode cX7_ladder 4 = .ok (.invokestatic 381, 3) := by decide +kernel
theorem dX7_ladder_7 : decode cX7_ladder 7 = .ok (.ifCond .ne 5, 3) := by decide +kernel
theorem dX7_ladder_10 : decode cX7_ladder 10 = .ok (.iconst (-1), 1) := by decide +kernel
theorem dX7_ladder_11 : decode cX7_ladder 11 = .ok (.ireturn, 1) := by decide +kernel
theorem dX7_ladder_12 : decode cX7_ladder 12 = .ok (.aload_n 0, 1) := by decide +kernel
theorem dX7_ladder_13 : decode cX7_ladder 13 = .ok (.invokevirtual 605, 3) := by decide +kernel
theorem dX7_ladder_16 : decode cX7_ladder 16 = .ok (.iconst 0, 1) := by decide +kernel
theorem dX7_ladder_17 : decode cX7_ladder 17 = .ok (.istore_n 2, 1) := by decide +kernel
theorem dX7_ladder_18 : decode cX7_ladder 18 = .ok (.iconst 0, 1) := by decide +kernel
theorem dX7_ladder_19 : decode cX7_ladder 19 = .ok (.istore_n 3, 1) := by decide +kernel
theorem dX7_ladder_20 : decode cX7_ladder 20 = .ok (.iload_n 3, 1) := by decide +kernel
theorem dX7_ladder_21 : decode cX7_ladder 21 = .ok (.iconst 1, 1) := by decide +kernel
theorem dX7_ladder_22 : decode cX7_ladder 22 = .ok (.aload_n 0, 1) := by decide +kernel
theorem dX7_ladder_23 : decode cX7_ladder 23 = .ok (.getfield 54, 3) := by decide +kernel
theorem dX7_ladder_26 : decode cX7_ladder 26 = .ok (.aload_n 0, 1) := by decide +kernel
theorem dX7_ladder_27 : decode cX7_ladder 27 = .ok (.getfield 51, 3) := by decide +kernel
theorem dX7_ladder_30 : decode cX7_ladder 30 = .ok (.iaload, 1) := by decide +kernel
theorem dX7_ladder_31 : decode cX7_ladder 31 = .ok (.ishl, 1) := by decide +kernel
theorem dX7_ladder_32 : decode cX7_ladder 32 = .ok (.if_icmp .ge 33, 3) := by decide +kernel
theorem dX7_ladder_35 : decode cX7_ladder 35 = .ok (.iload_n 2, 1) := by decide +kernel
theorem dX7_ladder_36 : decode cX7_ladder 36 = .ok (.aload_n 0, 1) := by decide +kernel
theorem dX7_ladder_37 : decode cX7_ladder 37 = .ok (.getfield 231, 3) := by decide +kernel
theorem dX7_ladder_40 : decode cX7_ladder 40 = .ok (.sipush 1024, 3) := by decide +kernel
theorem dX7_ladder_43 : decode cX7_ladder 43 = .ok (.iload_n 1, 1) := by decide +kernel
theorem dX7_ladder_44 : decode cX7_ladder 44 = .ok (.imul, 1) := by decide +kernel
theorem dX7_ladder_45 : decode cX7_ladder 45 = .ok (.iload_n 3, 1) := by decide +kernel
theorem dX7_ladder_46 : decode cX7_ladder 46 = .ok (.iadd, 1) := by decide +kernel
theorem dX7_ladder_47 : decode cX7_ladder 47 = .ok (.iaload, 1) := by decide +kernel
theorem dX7_ladder_48 : decode cX7_ladder 48 = .ok (.iconst (-1), 1) := by decide +kernel
theorem dX7_ladder_49 : decode cX7_ladder 49 = .ok (.if_icmp .ne 7, 3) := by decide +kernel
theorem dX7_ladder_52 : decode cX7_ladder 52 = .ok (.iconst 0, 1) := by decide +kernel
theorem dX7_ladder_53 : decode cX7_ladder 53 = .ok (.goto 4, 3) := by decide +kernel
theorem dX7_ladder_56 : decode cX7_ladder 56 = .ok (.iconst 1, 1) := by decide +kernel
theorem dX7_ladder_57 : decode cX7_ladder 57 = .ok (.iadd, 1) := by decide +kernel
theorem dX7_ladder_58 : decode cX7_ladder 58 = .ok (.istore_n 2, 1) := by decide +kernel
theorem dX7_ladder_59 : decode cX7_ladder 59 = .ok (.iinc 3 1, 3) := by decide +kernel
theorem dX7_ladder_62 : decode cX7_ladder 62 = .ok (.goto (-42), 3) := by decide +kernel
theorem dX7_ladder_65 : decode cX7_ladder 65 = .ok (.iload_n 2, 1) := by decide +kernel
theorem dX7_ladder_66 : decode cX7_ladder 66 = .ok (.ireturn, 1) := by decide +kernel
theorem dX7_foundSea_0 : decode cX7_foundSea 0 = .ok (.aload_n 0, 1) := by decide +kernel
theorem dX7_foundSea_1 : decode cX7_foundSea 1 = .ok (.getfield 231, 3) := by decide +kernel
theorem dX7_foundSea_4 : decode cX7_foundSea 4 = .ok (.sipush 1024, 3) := by decide +kernel
theorem dX7_foundSea_7 : decode cX7_foundSea 7 = .ok (.aload_n 0, 1) := by decide +kernel
theorem dX7_foundSea_8 : decode cX7_foundSea 8 = .ok (.getfield 240, 3) := by decide +kernel
theorem dX7_foundSea_11 : decode cX7_foundSea 11 = .ok (.imul, 1) := by decide +kernel
theorem dX7_foundSea_12 : decode cX7_foundSea 12 = .ok (.aload_n 0, 1) := by decide +kernel
theorem dX7_foundSea_13 : decode cX7_foundSea 13 = .ok (.getfield 243, 3) := by decide +kernel
theorem dX7_foundSea_16 : decode cX7_foundSea 16 = .ok (.iadd, 1) := by decide +kernel
theorem dX7_foundSea_17 : decode cX7_foundSea 17 = .ok (.iaload, 1) := by decide +kernel
theorem dX7_foundSea_18 : decode cX7_foundSea 18 = .ok (.ireturn, 1) := by decide +kernel
set_option maxRecDepth 20000 in
theorem ggX7_isContentOn_X7_asks : GoodIn wsX7_isContentOn wsX7_asks := goodIn_r _ [8, 9, 10, 11, 12, 70, 71, 72, 73, 74, 75, 76, 77, 78, 79, 80, 81, 82, 83, 84, 85, 86, 87, 88, 89, 90, 91, 92, 93, 94, 95, 96, 97, 98, 99, 100, 101, 102, 103, 104, 105, 106, 107, 108, 109, 110, 111, 112, 113, 114, 115, 116, 117, 118, 119, 120, 121, 122, 123, 124, 125, 126, 127, 128, 129, 130, 131, 132, 133, 134, 135, 136, 137, 138, 139, 140, 141, 142, 143, 144, 145, 146, 147, 148, 149, 150, 151, 152, 153, 154, 155, 156, 157, 158, 159, 160, 161] rfl (by decide +kernel)
set_option maxRecDepth 20000 in
theorem gX7_isContentOn_X7_asks : GoodIn wsX7_isContentOn (wsV RX7 535 RX7 yX7_asks wsX7_asks) := goodIn_app (goodIn_of _ (by decide +kernel)) ggX7_isContentOn_X7_asks
set_option maxRecDepth 20000 in
theorem ggX7_isContentOn_X7_isContent : GoodIn wsX7_isContentOn wsX7_isContent := goodIn_r _ [16, 17, 18, 19, 20, 21, 22, 23, 7, 24, 25, 26, 27, 28, 29, 30, 31, 9, 10, 11, 12, 32, 33, 34, 35, 36, 37, 38, 39, 40, 41, 42, 43, 44, 45, 46, 47, 48, 49, 50, 51, 52, 53, 54, 55, 56, 57, 58, 59, 60, 61, 62, 63, 64, 65, 66, 67, 68, 69, 70, 71, 72, 73, 74, 75, 76, 77, 78, 79, 80, 81, 82, 83, 84, 85, 86, 87, 88, 89, 90, 91, 92, 93, 94, 95, 96, 97, 98, 99, 100, 101, 102, 103, 104, 105, 106, 107, 108, 109, 110, 111, 112, 113, 114, 115, 116, 117, 118, 119, 120, 121, 122, 123, 124, 125, 126, 127, 128, 129, 130, 131, 132, 133, 134, 135, 136, 137, 138, 139, 140, 141, 142, 143, 144, 145, 146, 147, 148, 149, 150, 151, 152, 153, 154, 155, 156, 157, 158, 159, 160, 161] rfl (by decide +kernel)
set_option maxRecDepth 20000 in
theorem gX7_isContentOn_X7_isContent : GoodIn wsX7_isContentOn (wsV RX7 532 RX7 yX7_isContent wsX7_isContent) := goodIn_app (goodIn_of _ (by decide +kernel)) ggX7_isContentOn_X7_isContent
theorem dX7_isContentOn_0 : decode cX7_isContentOn 0 = .ok (.aload_n 0, 1) := by decide +kernel
theorem dX7_isContentOn_1 : decode cX7_isContentOn 1 = .ok (.iload_n 2, 1) := by decide +kernel
theorem dX7_isContentOn_2 : decode cX7_isContentOn 2 = .ok (.aload_n 0, 1) := by decide +kernel
theorem dX7_isContentOn_3 : decode cX7_isContentOn 3 = .ok (.getfield 231, 3) := by decide +kernel
theorem dX7_isContentOn_6 : decode cX7_isContentOn 6 = .ok (.sipush 1024, 3) := by decide +kernel
theorem dX7_isContentOn_9 : decode cX7_isContentOn 9 = .ok (.iload_n 1, 1) := by decide +kernel
theorem dX7_isContentOn_10 : decode cX7_isContentOn 10 = .ok (.imul, 1) := by decide +kernel
theorem dX7_isContentOn_11 : decode cX7_isContentOn 11 = .ok (.iload_n 2, 1) := by decide +kernel
theorem dX7_isContentOn_12 : decode cX7_isContentOn 12 = .ok (.iadd, 1) := by decide +kernel
theorem dX7_isContentOn_13 : decode cX7_isContentOn 13 = .ok (.iaload, 1) := by decide +kernel
theorem dX7_isContentOn_14 : decode cX7_isContentOn 14 = .ok (.aload_n 0, 1) := by decide +kernel
theorem dX7_isContentOn_15 : decode cX7_isContentOn 15 = .ok (.getfield 168, 3) := by decide +kernel
theorem dX7_isContentOn_18 : decode cX7_isContentOn 18 = .ok (.iconst 0, 1) := by decide +kernel
theorem dX7_isContentOn_19 : decode cX7_isContentOn 19 = .ok (.iaload, 1) := by decide +kernel
theorem dX7_isContentOn_20 : decode cX7_isContentOn 20 = .ok (.iload_n 1, 1) := by decide +kernel
theorem dX7_isContentOn_21 : decode cX7_isContentOn 21 = .ok (.iadd, 1) := by decide +kernel
theorem dX7_isContentOn_22 : decode cX7_isContentOn 22 = .ok (.aload_n 0, 1) := by decide +kernel
theorem dX7_isContentOn_23 : decode cX7_isContentOn 23 = .ok (.getfield 171, 3) := by decide +kernel
theorem dX7_isContentOn_26 : decode cX7_isContentOn 26 = .ok (.iconst 0, 1) := by decide +kernel
theorem dX7_isContentOn_27 : decode cX7_isContentOn 27 = .ok (.iaload, 1) := by decide +kernel
theorem dX7_isContentOn_28 : decode cX7_isContentOn 28 = .ok (.invokevirtual 535, 3) := by decide +kernel
theorem dX7_isContentOn_31 : decode cX7_isContentOn 31 = .ok (.aload_n 0, 1) := by decide +kernel
theorem dX7_isContentOn_32 : decode cX7_isContentOn 32 = .ok (.invokevirtual 532, 3) := by decide +kernel
theorem dX7_isContentOn_35 : decode cX7_isContentOn 35 = .ok (.ireturn, 1) := by decide +kernel
set_option maxRecDepth 20000 in
theorem ggX7_finds_X7_climbs : GoodIn wsX7_finds wsX7_climbs := goodIn_r _ [10, 4, 11, 12, 2, 3, 13, 14, 15, 9, 16, 17, 18, 19, 20, 21, 22, 23, 24, 25, 26, 27, 28, 29, 30, 31, 32, 33, 34, 35, 36, 37, 38, 39, 40, 41, 42, 43, 44, 45, 46, 47, 48, 49, 50, 51, 52, 53, 54, 55, 56, 57, 58, 59, 60, 61, 62, 63, 64, 65, 66, 67, 68, 69, 70, 71, 72, 73, 74, 75, 76, 77, 78, 79, 80, 81, 82, 83, 84, 85, 86, 87, 88, 89, 90, 91, 92, 93, 94, 95, 96, 97, 98, 99, 100, 101, 102, 103, 104, 105, 106, 107, 108, 109, 110, 119, 120, 121, 122, 123, 124, 125, 126, 127, 128, 129, 130, 131, 132, 133, 134, 135, 136, 137, 138, 139, 140, 141, 142, 143, 144, 145, 146, 147, 148, 149, 150, 151, 152, 153, 154, 155, 156, 157, 158, 159, 160, 161, 162, 163, 164, 165, 166, 167, 168, 169, 170, 171, 172, 173, 174, 175, 176, 177, 178, 179, 180, 181, 182, 183, 184, 185, 186, 187, 188, 189, 190, 191, 192, 193, 194, 195, 196, 197, 198, 199, 200, 201, 202, 203, 204, 205, 206, 207, 208, 209, 210] rfl (by decide +kernel)
set_option maxRecDepth 20000 in
theorem gX7_finds_X7_climbs : GoodIn wsX7_finds (wsV RX7 605 RX7 yX7_climbs wsX7_climbs) := goodIn_app (goodIn_of _ (by decide +kernel)) ggX7_finds_X7_climbs
set_option maxRecDepth 20000 in
theorem ggX7_finds_X7_isContentOn : GoodIn wsX7_finds wsX7_isContentOn := goodIn_r _ [114, 4, 18, 19, 23, 24, 25, 9, 26, 27, 28, 29, 30, 95, 96, 97, 98, 59, 99, 3, 100, 62, 63, 64, 65, 66, 67, 68, 69, 70, 71, 72, 73, 74, 75, 76, 2, 77, 42, 43, 44, 78, 79, 80, 45, 46, 47, 48, 49, 50, 51, 52, 53, 54, 37, 38, 39, 40, 41, 81, 82, 83, 84, 85, 86, 87, 88, 89, 90, 91, 119, 120, 121, 122, 123, 124, 125, 126, 127, 128, 129, 130, 131, 132, 133, 134, 135, 136, 137, 138, 139, 140, 141, 142, 143, 144, 145, 146, 147, 148, 149, 150, 151, 152, 153, 154, 155, 156, 157, 158, 159, 160, 161, 162, 163, 164, 165, 166, 167, 168, 169, 170, 171, 172, 173, 174, 175, 176, 177, 178, 179, 180, 181, 182, 183, 184, 185, 186, 187, 188, 189, 190, 191, 192, 193, 194, 195, 196, 197, 198, 199, 200, 201, 202, 203, 204, 205, 206, 207, 208, 209, 210] rfl (by decide +kernel)
set_option maxRecDepth 20000 in
theorem gX7_finds_X7_isContentOn : GoodIn wsX7_finds (wsV RX7 608 RX7 yX7_isContentOn wsX7_isContentOn) := goodIn_app (goodIn_of _ (by decide +kernel)) ggX7_finds_X7_isContentOn
set_option maxRecDepth 20000 in
theorem ggX7_finds_X7_foundSea : GoodIn wsX7_finds wsX7_foundSea := goodIn_r _ [118, 4, 1, 5, 119, 120, 121, 122, 123, 124, 125, 126, 127, 128, 129, 130, 131, 132, 133, 134, 135, 136, 137, 138, 139, 140, 141, 142, 143, 144, 145, 146, 147, 148, 149, 150, 151, 152, 153, 154, 155, 156, 157, 158, 159, 160, 161, 162, 163, 164, 165, 166, 167, 168, 169, 170, 171, 172, 173, 174, 175, 176, 177, 178, 179, 180, 181, 182, 183, 184, 185, 186, 187, 188, 189, 190, 191, 192, 193, 194, 195, 196, 197, 198, 199, 200, 201, 202, 203, 204, 205, 206, 207, 208, 209, 210] rfl (by decide +kernel)
set_option maxRecDepth 20000 in
theorem gX7_finds_X7_foundSea : GoodIn wsX7_finds (wsV RX7 611 RX7 yX7_foundSea wsX7_foundSea) := goodIn_app (goodIn_of _ (by decide +kernel)) ggX7_finds_X7_foundSea
theorem dX7_finds_0 : decode cX7_finds 0 = .ok (.aload_n 0, 1) := by decide +kernel
theorem dX7_finds_1 : decode cX7_finds 1 = .ok (.invokevirtual 605, 3) := by decide +kernel
theorem dX7_finds_4 : decode cX7_finds 4 = .ok (.aload_n 0, 1) := by decide +kernel
theorem dX7_finds_5 : decode cX7_finds 5 = .ok (.iconst (-1), 1) := by decide +kernel
theorem dX7_finds_6 : decode cX7_finds 6 = .ok (.putfield 240, 3) := by decide +kernel
theorem dX7_finds_9 : decode cX7_finds 9 = .ok (.iconst 0, 1) := by decide +kernel
theorem dX7_finds_10 : decode cX7_finds 10 = .ok (.istore_n 2, 1) := by decide +kernel
theorem dX7_finds_11 : decode cX7_finds 11 = .ok (.iload_n 2, 1) := by decide +kernel
theorem dX7_finds_12 : decode cX7_finds 12 = .ok (.bipush 8, 2) := by decide +kernel
theorem dX7_finds_14 : decode cX7_finds 14 = .ok (.if_icmp .gt 115, 3) := by decide +kernel
theorem dX7_finds_17 : decode cX7_finds 17 = .ok (.aload_n 0, 1) := by decide +kernel
theorem dX7_finds_18 : decode cX7_finds 18 = .ok (.getfield 240, 3) := by decide +kernel
theorem dX7_finds_21 : decode cX7_finds 21 = .ok (.iconst (-1), 1) := by decide +kernel
theorem dX7_finds_22 : decode cX7_finds 22 = .ok (.if_icmp .ne 107, 3) := by decide +kernel
theorem dX7_finds_25 : decode cX7_finds 25 = .ok (.iconst 0, 1) := by decide +kernel
theorem dX7_finds_26 : decode cX7_finds 26 = .ok (.istore_n 3, 1) := by decide +kernel
theorem dX7_finds_27 : decode cX7_finds 27 = .ok (.iload_n 3, 1) := by decide +kernel
theorem dX7_finds_28 : decode cX7_finds 28 = .ok (.iconst 1, 1) := by decide +kernel
theorem dX7_finds_29 : decode cX7_finds 29 = .ok (.aload_n 0, 1) := by decide +kernel
theorem dX7_finds_30 : decode cX7_finds 30 = .ok (.getfield 54, 3) := by decide +kernel
theorem dX7_finds_33 : decode cX7_finds 33 = .ok (.aload_n 0, 1) := by decide +kernel
theorem dX7_finds_34 : decode cX7_finds 34 = .ok (.getfield 51, 3) := by decide +kernel
theorem dX7_finds_37 : decode cX7_finds 37 = .ok (.iaload, 1) := by decide +kernel
theorem dX7_finds_38 : decode cX7_finds 38 = .ok (.ishl, 1) := by decide +kernel
theorem dX7_finds_39 : decode cX7_finds 39 = .ok (.if_icmp .ge 84, 3) := by decide +kernel
theorem dX7_finds_42 : decode cX7_finds 42 = .ok (.aload_n 0, 1) := by decide +kernel
theorem dX7_finds_43 : decode cX7_finds 43 = .ok (.getfield 231, 3) := by decide +kernel
theorem dX7_finds_46 : decode cX7_finds 46 = .ok (.sipush 1024, 3) := by decide +kernel
theorem dX7_finds_49 : decode cX7_finds 49 = .ok (.iload_n 2, 1) := by decide +kernel
theorem dX7_finds_50 : decode cX7_finds 50 = .ok (.imul, 1) := by decide +kernel
theorem dX7_finds_51 : decode cX7_finds 51 = .ok (.iload_n 3, 1) := by decide +kernel
theorem dX7_finds_52 : decode cX7_finds 52 = .ok (.iadd, 1) := by decide +kernel
theorem dX7_finds_53 : decode cX7_finds 53 = .ok (.iaload, 1) := by decide +kernel
theorem dX7_finds_54 : decode cX7_finds 54 = .ok (.istore 4, 2) := by decide +kernel
theorem dX7_finds_56 : decode cX7_finds 56 = .ok (.iload 4, 2) := by decide +kernel
theorem dX7_finds_58 : decode cX7_finds 58 = .ok (.iconst (-1), 1) := by decide +kernel
theorem dX7_finds_59 : decode cX7_finds 59 = .ok (.if_icmp .eq 58, 3) := by decide +kernel
theorem dX7_finds_62 : decode cX7_finds 62 = .ok (.iload_n 1, 1) := by decide +kernel
theorem dX7_finds_63 : decode cX7_finds 63 = .ok (.iconst (-1), 1) := by decide +kernel
theorem dX7_finds_64 : decode cX7_finds 64 = .ok (.if_icmp .ne 15, 3) := by decide +kernel
theorem dX7_finds_67 : decode cX7_finds 67 = .ok (.aload_n 0, 1) := by decide +kernel
theorem dX7_finds_68 : decode cX7_finds 68 = .ok (.iload_n 2, 1) := by decide +kernel
theorem dX7_finds_69 : decode cX7_finds 69 = .ok (.iload_n 3, 1) := by decide +kernel
theorem dX7_finds_70 : decode cX7_finds 70 = .ok (.invokevirtual 608, 3) := by decide +kernel
theorem dX7_finds_73 : decode cX7_finds 73 = .ok (.ifCond .ne 14, 3) := by decide +kernel
theorem dX7_finds_76 : decode cX7_finds 76 = .ok (.goto 41, 3) := by decide +kernel
theorem dX7_finds_79 : decode cX7_finds 79 = .ok (.iload_n 1, 1) := by decide +kernel
theorem dX7_finds_80 : decode cX7_finds 80 = .ok (.iload_n 3, 1) := by decide +kernel
theorem dX7_finds_81 : decode cX7_finds 81 = .ok (.iconst (-1), 1) := by decide +kernel
theorem dX7_finds_82 : decode cX7_finds 82 = .ok (.ixor, 1) := by decide +kernel
theorem dX7_finds_83 : decode cX7_finds 83 = .ok (.iand, 1) := by decide +kernel
theorem dX7_finds_84 : decode cX7_finds 84 = .ok (.ifCond .ne 33, 3) := by decide +kernel
theorem dX7_finds_87 : decode cX7_finds 87 = .ok (.aload_n 0, 1) := by decide +kernel
theorem dX7_finds_88 : decode cX7_finds 88 = .ok (.getfield 240, 3) := by decide +kernel
theorem dX7_finds_91 : decode cX7_finds 91 = .ok (.iconst (-1), 1) := by decide +kernel
theorem dX7_finds_92 : decode cX7_finds 92 = .ok (.if_icmp .eq 15, 3) := by decide +kernel
theorem dX7_finds_95 : decode cX7_finds 95 = .ok (.iload 4, 2) := by decide +kernel
theorem dX7_finds_97 : decode cX7_finds 97 = .ok (.aload_n 0, 1) := by decide +kernel
theorem dX7_finds_98 : decode cX7_finds 98 = .ok (.invokevirtual 611, 3) := by decide +kernel
theorem dX7_finds_101 : decode cX7_finds 101 = .ok (.if_icmp .lt 6, 3) := by decide +kernel
theorem dX7_finds_104 : decode cX7_finds 104 = .ok (.goto 13, 3) := by decide +kernel
theorem dX7_finds_107 : decode cX7_finds 107 = .ok (.aload_n 0, 1) := by decide +kernel
theorem dX7_finds_108 : decode cX7_finds 108 = .ok (.iload_n 2, 1) := by decide +kernel
theorem dX7_finds_109 : decode cX7_finds 109 = .ok (.putfield 240, 3) := by decide +kernel
theorem dX7_finds_112 : decode cX7_finds 112 = .ok (.aload_n 0, 1) := by decide +kernel
theorem dX7_finds_113 : decode cX7_finds 113 = .ok (.iload_n 3, 1) := by decide +kernel
theorem dX7_finds_114 : decode cX7_finds 114 = .ok (.putfield 243, 3) := by decide +kernel
theorem dX7_finds_117 : decode cX7_finds 117 = .ok (.iinc 3 1, 3) := by decide +kernel
theorem dX7_finds_120 : decode cX7_finds 120 = .ok (.goto (-93), 3) := by decide +kernel
theorem dX7_finds_123 : decode cX7_finds 123 = .ok (.iinc 2 1, 3) := by decide +kernel
theorem dX7_finds_126 : decode cX7_finds 126 = .ok (.goto (-115), 3) := by decide +kernel
theorem dX7_finds_129 : decode cX7_finds 129 = .ok (.return_, 1) := by decide +kernel
theorem dX7_wayTo_0 : decode cX7_wayTo 0 = .ok (.aload_n 0, 1) := by decide +kernel
theorem dX7_wayTo_1 : decode cX7_wayTo 1 = .ok (.getfield 243, 3) := by decide +kernel
theorem dX7_wayTo_4 : decode cX7_wayTo 4 = .ok (.istore_n 2, 1) := by decide +kernel
theorem dX7_wayTo_5 : decode cX7_wayTo 5 = .ok (.aload_n 0, 1) := by decide +kernel
theorem dX7_wayTo_6 : decode cX7_wayTo 6 = .ok (.getfield 240, 3) := by decide +kernel
theorem dX7_wayTo_9 : decode cX7_wayTo 9 = .ok (.istore_n 3, 1) := by decide +kernel
theorem dX7_wayTo_10 : decode cX7_wayTo 10 = .ok (.iload_n 3, 1) := by decide +kernel
theorem dX7_wayTo_11 : decode cX7_wayTo 11 = .ok (.iload_n 1, 1) := by decide +kernel
theorem dX7_wayTo_12 : decode cX7_wayTo 12 = .ok (.iconst 1, 1) := by decide +kernel
theorem dX7_wayTo_13 : decode cX7_wayTo 13 = .ok (.iadd, 1) := by decide +kernel
theorem dX7_wayTo_14 : decode cX7_wayTo 14 = .ok (.if_icmp .le 22, 3) := by decide +kernel
theorem dX7_wayTo_17 : decode cX7_wayTo 17 = .ok (.aload_n 0, 1) := by decide +kernel
theorem dX7_wayTo_18 : decode cX7_wayTo 18 = .ok (.getfield 234, 3) := by decide +kernel
theorem dX7_wayTo_21 : decode cX7_wayTo 21 = .ok (.sipush 1024, 3) := by decide +kernel
theorem dX7_wayTo_24 : decode cX7_wayTo 24 = .ok (.iload_n 3, 1) := by decide +kernel
theorem dX7_wayTo_25 : decode cX7_wayTo 25 = .ok (.imul, 1) := by decide +kernel
theorem dX7_wayTo_26 : decode cX7_wayTo 26 = .ok (.iload_n 2, 1) := by decide +kernel
theorem dX7_wayTo_27 : decode cX7_wayTo 27 = .ok (.iadd, 1) := by decide +kernel
theorem dX7_wayTo_28 : decode cX7_wayTo 28 = .ok (.iaload, 1) := by decide +kernel
theorem dX7_wayTo_29 : decode cX7_wayTo 29 = .ok (.istore_n 2, 1) := by decide +kernel
theorem dX7_wayTo_30 : decode cX7_wayTo 30 = .ok (.iinc 3 (-1), 3) := by decide +kernel
theorem dX7_wayTo_33 : decode cX7_wayTo 33 = .ok (.goto (-23), 3) := by decide +kernel
theorem dX7_wayTo_36 : decode cX7_wayTo 36 = .ok (.aload_n 0, 1) := by decide +kernel
theorem dX7_wayTo_37 : decode cX7_wayTo 37 = .ok (.getfield 237, 3) := by decide +kernel
theorem dX7_wayTo_40 : decode cX7_wayTo 40 = .ok (.sipush 1024, 3) := by decide +kernel
theorem dX7_wayTo_43 : decode cX7_wayTo 43 = .ok (.iload_n 1, 1) := by decide +kernel
theorem dX7_wayTo_44 : decode cX7_wayTo 44 = .ok (.iconst 1, 1) := by decide +kernel
theorem dX7_wayTo_45 : decode cX7_wayTo 45 = .ok (.iadd, 1) := by decide +kernel
theorem dX7_wayTo_46 : decode cX7_wayTo 46 = .ok (.imul, 1) := by decide +kernel
theorem dX7_wayTo_47 : decode cX7_wayTo 47 = .ok (.iload_n 2, 1) := by decide +kernel
theorem dX7_wayTo_48 : decode cX7_wayTo 48 = .ok (.iadd, 1) := by decide +kernel
theorem dX7_wayTo_49 : decode cX7_wayTo 49 = .ok (.iaload, 1) := by decide +kernel
theorem dX7_wayTo_50 : decode cX7_wayTo 50 = .ok (.ireturn, 1) := by decide +kernel
set_option maxRecDepth 20000 in
theorem ggX7_fewest_X7_is : GoodIn wsX7_fewest wsX7_is := goodIn_r _ [8] rfl (by decide +kernel)
set_option maxRecDepth 20000 in
theorem gX7_fewest_X7_is : GoodIn wsX7_fewest (va_wsS RX7 381 yX7_is wsX7_is) := goodIn_app (goodIn_of _ (by decide +kernel)) ggX7_fewest_X7_is
set_option maxRecDepth 20000 in
theorem ggX7_fewest_X7_finds : GoodIn wsX7_fewest wsX7_finds := goodIn_r _ [12, 3, 1, 2, 13, 4, 14, 15, 16, 7, 17, 18, 19, 20, 21, 22, 23, 24, 25, 26, 27, 28, 29, 30, 31, 32, 33, 34, 35, 36, 37, 38, 39, 40, 41, 42, 43, 44, 45, 46, 47, 48, 49, 50, 51, 52, 53, 54, 55, 56, 57, 58, 59, 60, 61, 62, 63, 64, 65, 66, 67, 68, 69, 70, 71, 72, 73, 74, 75, 76, 77, 78, 79, 80, 81, 82, 83, 84, 85, 86, 87, 88, 89, 90, 91, 92, 93, 94, 95, 96, 97, 98, 99, 100, 101, 102, 103, 104, 105, 106, 107, 108, 109, 110, 111, 112, 113, 114, 115, 116, 117, 118, 119, 120, 121, 122, 123, 124, 125, 130, 131, 132, 133, 134, 135, 136, 137, 138, 139, 140, 141, 142, 143, 144, 145, 146, 147, 148, 149, 150, 151, 152, 153, 154, 155, 156, 157, 158, 159, 160, 161, 162, 163, 164, 165, 166, 167, 168, 169, 170, 171, 172, 173, 174, 175, 176, 177, 178, 179, 180, 181, 182, 183, 184, 185, 186, 187, 188, 189, 190, 191, 192, 193, 194, 195, 196, 197, 198, 199, 200, 201, 202, 203, 204, 205, 206, 207, 208, 209, 210, 211, 212, 213, 214, 215, 216, 217, 218, 219, 220, 221] rfl (by decide +kernel)
set_option maxRecDepth 20000 in
theorem gX7_fewest_X7_finds : GoodIn wsX7_fewest (wsV RX7 614 RX7 yX7_finds wsX7_finds) := goodIn_app (goodIn_of _ (by decide +kernel)) ggX7_fewest_X7_finds
set_option maxRecDepth 20000 in
theorem ggX7_fewest_X7_foundSea : GoodIn wsX7_fewest wsX7_foundSea := goodIn_r _ [125, 13, 3, 4, 130, 131, 132, 133, 134, 135, 136, 137, 138, 139, 140, 141, 142, 143, 144, 145, 146, 147, 148, 149, 150, 151, 152, 153, 154, 155, 156, 157, 158, 159, 160, 161, 162, 163, 164, 165, 166, 167, 168, 169, 170, 171, 172, 173, 174, 175, 176, 177, 178, 179, 180, 181, 182, 183, 184, 185, 186, 187, 188, 189, 190, 191, 192, 193, 194, 195, 196, 197, 198, 199, 200, 201, 202, 203, 204, 205, 206, 207, 208, 209, 210, 211, 212, 213, 214, 215, 216, 217, 218, 219, 220, 221] rfl (by decide +kernel)
set_option maxRecDepth 20000 in
theorem gX7_fewest_X7_foundSea : GoodIn wsX7_fewest (wsV RX7 611 RX7 yX7_foundSea wsX7_foundSea) := goodIn_app (goodIn_of _ (by decide +kernel)) ggX7_fewest_X7_foundSea
set_option maxRecDepth 20000 in
theorem ggX7_fewest_X7_wayTo : GoodIn wsX7_fewest wsX7_wayTo := goodIn_r _ [129, 4, 3, 28, 29, 130, 131, 132, 133, 134, 135, 136, 137, 138, 139, 140, 141, 142, 143, 144, 145, 146, 147, 148, 149, 150, 151, 152, 153, 154, 155, 156, 157, 158, 159, 160, 161, 162, 163, 164, 165, 166, 167, 168, 169, 170, 171, 172, 173, 174, 175, 176, 177, 178, 179, 180, 181, 182, 183, 184, 185, 186, 187, 188, 189, 190, 191, 192, 193, 194, 195, 196, 197, 198, 199, 200, 201, 202, 203, 204, 205, 206, 207, 208, 209, 210, 211, 212, 213, 214, 215, 216, 217, 218, 219, 220, 221] rfl (by decide +kernel)
set_option maxRecDepth 20000 in
theorem gX7_fewest_X7_wayTo : GoodIn wsX7_fewest (wsV RX7 617 RX7 yX7_wayTo wsX7_wayTo) := goodIn_app (goodIn_of _ (by decide +kernel)) ggX7_fewest_X7_wayTo
theorem dX7_fewest_0 : decode cX7_fewest 0 = .ok (.iload_n 1, 1) := by decide +kernel
theorem dX7_fewest_1 : decode cX7_fewest 1 = .ok (.iconst 0, 1) := by decide +kernel
theorem dX7_fewest_2 : decode cX7_fewest 2 = .ok (.iconst 1, 1) := by decide +kernel
theorem dX7_fewest_3 : decode cX7_fewest 3 = .ok (.aload_n 0, 1) := by decide +kernel
theorem dX7_fewest_4 : decode cX7_fewest 4 = .ok (.getfield 54, 3) := by decide +kernel
theorem dX7_fewest_7 : decode cX7_fewest 7 = .ok (.aload_n 0, 1) := by decide +kernel
theorem dX7_fewest_8 : decode cX7_fewest 8 = .ok (.getfield 51, 3) := by decide +kernel
theorem dX7_fewest_11 : decode cX7_fewest 11 = .ok (.iaload, 1) := by decide +kernel
theorem dX7_fewest_12 : decode cX7_fewest 12 = .ok (.ishl, 1) := by decide +kernel
theorem dX7_fewest_13 : decode cX7_fewest 13 = .ok (.iconst 1, 1) := by decide +kernel
theorem dX7_fewest_14 : decode cX7_fewest 14 = .ok (.isub, 1) := by decide +kernel
theorem dX7_fewest_15 : decode cX7_fewest 15 = .ok (.invokestatic 381, 3) := by decide +kernel
theorem dX7_fewest_18 : decode cX7_fewest 18 = .ok (.ifCond .ne 5, 3) := by decide +kernel
theorem dX7_fewest_21 : decode cX7_fewest 21 = .ok (.iconst (-1), 1) := by decide +kernel
theorem dX7_fewest_22 : decode cX7_fewest 22 = .ok (.ireturn, 1) := by decide +kernel
theorem dX7_fewest_23 : decode cX7_fewest 23 = .ok (.aload_n 0, 1) := by decide +kernel
theorem dX7_fewest_24 : decode cX7_fewest 24 = .ok (.iload_n 1, 1) := by decide +kernel
theorem dX7_fewest_25 : decode cX7_fewest 25 = .ok (.invokevirtual 614, 3) := by decide +kernel
theorem dX7_fewest_28 : decode cX7_fewest 28 = .ok (.aload_n 0, 1) := by decide +kernel
theorem dX7_fewest_29 : decode cX7_fewest 29 = .ok (.getfield 240, 3) := by decide +kernel
theorem dX7_fewest_32 : decode cX7_fewest 32 = .ok (.iconst (-1), 1) := by decide +kernel
theorem dX7_fewest_33 : decode cX7_fewest 33 = .ok (.if_icmp .ne 5, 3) := by decide +kernel
theorem dX7_fewest_36 : decode cX7_fewest 36 = .ok (.iconst (-1), 1) := by decide +kernel
theorem dX7_fewest_37 : decode cX7_fewest 37 = .ok (.ireturn, 1) := by decide +kernel
theorem dX7_fewest_38 : decode cX7_fewest 38 = .ok (.iload_n 2, 1) := by decide +kernel
theorem dX7_fewest_39 : decode cX7_fewest 39 = .ok (.ifCond .ne 10, 3) := by decide +kernel
theorem dX7_fewest_42 : decode cX7_fewest 42 = .ok (.aload_n 0, 1) := by decide +kernel
theorem dX7_fewest_43 : decode cX7_fewest 43 = .ok (.getfield 240, 3) := by decide +kernel
theorem dX7_fewest_46 : decode cX7_fewest 46 = .ok (.goto 55, 3) := by decide +kernel
theorem dX7_fewest_49 : decode cX7_fewest 49 = .ok (.iload_n 2, 1) := by decide +kernel
theorem dX7_fewest_50 : decode cX7_fewest 50 = .ok (.iconst 1, 1) := by decide +kernel
theorem dX7_fewest_51 : decode cX7_fewest 51 = .ok (.if_icmp .ne 10, 3) := by decide +kernel
theorem dX7_fewest_54 : decode cX7_fewest 54 = .ok (.aload_n 0, 1) := by decide +kernel
theorem dX7_fewest_55 : decode cX7_fewest 55 = .ok (.invokevirtual 611, 3) := by decide +kernel
theorem dX7_fewest_58 : decode cX7_fewest 58 = .ok (.goto 43, 3) := by decide +kernel
theorem dX7_fewest_61 : decode cX7_fewest 61 = .ok (.iload_n 2, 1) := by decide +kernel
theorem dX7_fewest_62 : decode cX7_fewest 62 = .ok (.iconst 2, 1) := by decide +kernel
theorem dX7_fewest_63 : decode cX7_fewest 63 = .ok (.if_icmp .ne 10, 3) := by decide +kernel
theorem dX7_fewest_66 : decode cX7_fewest 66 = .ok (.aload_n 0, 1) := by decide +kernel
theorem dX7_fewest_67 : decode cX7_fewest 67 = .ok (.getfield 243, 3) := by decide +kernel
theorem dX7_fewest_70 : decode cX7_fewest 70 = .ok (.goto 31, 3) := by decide +kernel
theorem dX7_fewest_73 : decode cX7_fewest 73 = .ok (.iload_n 2, 1) := by decide +kernel
theorem dX7_fewest_74 : decode cX7_fewest 74 = .ok (.bipush 10, 2) := by decide +kernel
theorem dX7_fewest_76 : decode cX7_fewest 76 = .ok (.bipush 9, 2) := by decide +kernel
theorem dX7_fewest_78 : decode cX7_fewest 78 = .ok (.aload_n 0, 1) := by decide +kernel
theorem dX7_fewest_79 : decode cX7_fewest 79 = .ok (.getfield 240, 3) := by decide +kernel
theorem dX7_fewest_82 : decode cX7_fewest 82 = .ok (.iadd, 1) := by decide +kernel
theorem dX7_fewest_83 : decode cX7_fewest 83 = .ok (.invokestatic 381, 3) := by decide +kernel
theorem dX7_fewest_86 : decode cX7_fewest 86 = .ok (.ifCond .eq 14, 3) := by decide +kernel
theorem dX7_fewest_89 : decode cX7_fewest 89 = .ok (.aload_n 0, 1) := by decide +kernel
theorem dX7_fewest_90 : decode cX7_fewest 90 = .ok (.iload_n 2, 1) := by decide +kernel
theorem dX7_fewest_91 : decode cX7_fewest 91 = .ok (.bipush 10, 2) := by decide +kernel
theorem dX7_fewest_93 : decode cX7_fewest 93 = .ok (.isub, 1) := by decide +kernel
theorem dX7_fewest_94 : decode cX7_fewest 94 = .ok (.invokevirtual 617, 3) := by decide +kernel
theorem dX7_fewest_97 : decode cX7_fewest 97 = .ok (.goto 4, 3) := by decide +kernel
theorem dX7_fewest_100 : decode cX7_fewest 100 = .ok (.iconst (-1), 1) := by decide +kernel
theorem dX7_fewest_101 : decode cX7_fewest 101 = .ok (.ireturn, 1) := by decide +kernel
set_option maxRecDepth 20000 in
theorem ggX7_most_X7_is : GoodIn wsX7_most wsX7_is := goodIn_r _ [9] rfl (by decide +kernel)
set_option maxRecDepth 20000 in
theorem gX7_most_X7_is : GoodIn wsX7_most (va_wsS RX7 381 yX7_is wsX7_is) := goodIn_app (goodIn_of _ (by decide +kernel)) ggX7_most_X7_is
set_option maxRecDepth 20000 in
theorem ggX7_most_X7_climbs : GoodIn wsX7_most wsX7_climbs := goodIn_r _ [13, 4, 14, 15, 2, 3, 16, 17, 18, 8, 19, 20, 21, 22, 23, 24, 25, 26, 27, 28, 29, 30, 31, 32, 33, 34, 35, 36, 37, 38, 39, 40, 41, 42, 43, 44, 45, 46, 47, 48, 49, 50, 51, 52, 53, 54, 55, 56, 57, 58, 59, 60, 61, 62, 63, 64, 65, 66, 67, 68, 69, 70, 71, 72, 73, 74, 75, 76, 77, 78, 79, 80, 81, 82, 83, 84, 85, 86, 87, 88, 89, 90, 91, 92, 93, 94, 95, 96, 97, 98, 99, 100, 101, 102, 103, 104, 105, 106, 107, 108, 109, 110, 111, 112, 113, 123, 124, 125, 126, 127, 128, 129, 130, 131, 132, 133, 134, 135, 136, 137, 138, 139, 140, 141, 142, 143, 144, 145, 146, 147, 148, 149, 150, 151, 152, 153, 154, 155, 156, 157, 158, 159, 160, 161, 162, 163, 164, 165, 166, 167, 168, 169, 170, 171, 172, 173, 174, 175, 176, 177, 178, 179, 180, 181, 182, 183, 184, 185, 186, 187, 188, 189, 190, 191, 192, 193, 194, 195, 196, 197, 198, 199, 200, 201, 202, 203, 204, 205, 206, 207, 208, 209, 210, 211, 212, 213, 214] rfl (by decide +kernel)
set_option maxRecDepth 20000 in
theorem gX7_most_X7_climbs : GoodIn wsX7_most (wsV RX7 605 RX7 yX7_climbs wsX7_climbs) := goodIn_app (goodIn_of _ (by decide +kernel)) ggX7_most_X7_climbs
set_option maxRecDepth 20000 in
theorem ggX7_most_X7_briefOnes : GoodIn wsX7_most wsX7_briefOnes := goodIn_r _ [117, 2, 3, 118, 123, 124, 125, 126, 127, 128, 129, 130, 131, 132, 133, 134, 135, 136, 137, 138, 139, 140, 141, 142, 143, 144, 145, 146, 147, 148, 149, 150, 151, 152, 153, 154, 155, 156, 157, 158, 159, 160, 161, 162, 163, 164, 165, 166, 167, 168, 169, 170, 171, 172, 173, 174, 175, 176, 177, 178, 179, 180, 181, 182, 183, 184, 185, 186, 187, 188, 189, 190, 191, 192, 193, 194, 195, 196, 197, 198, 199, 200, 201, 202, 203, 204, 205, 206, 207, 208, 209, 210, 211, 212, 213, 214] rfl (by decide +kernel)
set_option maxRecDepth 20000 in
theorem gX7_most_X7_briefOnes : GoodIn wsX7_most (wsV RX7 572 RX7 yX7_briefOnes wsX7_briefOnes) := goodIn_app (goodIn_of _ (by decide +kernel)) ggX7_most_X7_briefOnes
set_option maxRecDepth 20000 in
theorem ggX7_most_X7_worthOf : GoodIn wsX7_most wsX7_worthOf := goodIn_r _ [79, 2, 3, 80, 45, 46, 8, 47, 123, 124, 125, 126, 127, 128, 129, 130, 131, 132, 133, 134, 135, 136, 137, 138, 139, 140, 141, 142, 143, 144, 145, 146, 147, 148, 149, 150, 151, 152, 153, 154, 155, 156, 157, 158, 159, 160, 161, 162, 163, 164, 165, 166, 167, 168, 169, 170, 171, 172, 173, 174, 175, 176, 177, 178, 179, 180, 181, 182, 183, 184, 185, 186, 187, 188, 189, 190, 191, 192, 193, 194, 195, 196, 197, 198, 199, 200, 201, 202, 203, 204, 205, 206, 207, 208, 209, 210, 211, 212, 213, 214] rfl (by decide +kernel)
set_option maxRecDepth 20000 in
theorem gX7_most_X7_worthOf : GoodIn wsX7_most (wsV RX7 490 RX7 yX7_worthOf wsX7_worthOf) := goodIn_app (goodIn_of _ (by decide +kernel)) ggX7_most_X7_worthOf
set_option maxRecDepth 20000 in
theorem ggX7_most_X7_foundSea : GoodIn wsX7_most wsX7_foundSea := goodIn_r _ [122, 4, 1, 5, 123, 124, 125, 126, 127, 128, 129, 130, 131, 132, 133, 134, 135, 136, 137, 138, 139, 140, 141, 142, 143, 144, 145, 146, 147, 148, 149, 150, 151, 152, 153, 154, 155, 156, 157, 158, 159, 160, 161, 162, 163, 164, 165, 166, 167, 168, 169, 170, 171, 172, 173, 174, 175, 176, 177, 178, 179, 180, 181, 182, 183, 184, 185, 186, 187, 188, 189, 190, 191, 192, 193, 194, 195, 196, 197, 198, 199, 200, 201, 202, 203, 204, 205, 206, 207, 208, 209, 210, 211, 212, 213, 214] rfl (by decide +kernel)
set_option maxRecDepth 20000 in
theorem gX7_most_X7_foundSea : GoodIn wsX7_most (wsV RX7 611 RX7 yX7_foundSea wsX7_foundSea) := goodIn_app (goodIn_of _ (by decide +kernel)) ggX7_most_X7_foundSea
theorem dX7_most_0 : decode cX7_most 0 = .ok (.iload_n 1, 1) := by decide +kernel
theorem dX7_most_1 : decode cX7_most 1 = .ok (.iconst 0, 1) := by decide +kernel
theorem dX7_most_2 : decode cX7_most 2 = .ok (.bipush 8, 2) := by decide +kernel
theorem dX7_most_4 : decode cX7_most 4 = .ok (.invokestatic 381, 3) := by decide +kernel
theorem dX7_most_7 : decode cX7_most 7 = .ok (.ifCond .eq 12, 3) := by decide +kernel
theorem dX7_most_10 : decode cX7_most 10 = .ok (.iload_n 2, 1) := by decide +kernel
theorem dX7_most_11 : decode cX7_most 11 = .ok (.iconst 0, 1) := by decide +kernel
theorem dX7_most_12 : decode cX7_most 12 = .ok (.iconst 3, 1) := by decide +kernel
theorem dX7_most_13 : decode cX7_most 13 = .ok (.invokestatic 381, 3) := by decide +kernel
theorem dX7_most_16 : decode cX7_most 16 = .ok (.ifCond .ne 5, 3) := by decide +kernel
theorem dX7_most_19 : decode cX7_most 19 = .ok (.iconst (-1), 1) := by decide +kernel
theorem dX7_most_20 : decode cX7_most 20 = .ok (.ireturn, 1) := by decide +kernel
theorem dX7_most_21 : decode cX7_most 21 = .ok (.aload_n 0, 1) := by decide +kernel
theorem dX7_most_22 : decode cX7_most 22 = .ok (.invokevirtual 605, 3) := by decide +kernel
theorem dX7_most_25 : decode cX7_most 25 = .ok (.aload_n 0, 1) := by decide +kernel
theorem dX7_most_26 : decode cX7_most 26 = .ok (.invokevirtual 572, 3) := by decide +kernel
theorem dX7_most_29 : decode cX7_most 29 = .ok (.iconst (-1), 1) := by decide +kernel
theorem dX7_most_30 : decode cX7_most 30 = .ok (.ixor, 1) := by decide +kernel
theorem dX7_most_31 : decode cX7_most 31 = .ok (.istore_n 3, 1) := by decide +kernel
theorem dX7_most_32 : decode cX7_most 32 = .ok (.aload_n 0, 1) := by decide +kernel
theorem dX7_most_33 : decode cX7_most 33 = .ok (.iconst (-1), 1) := by decide +kernel
theorem dX7_most_34 : decode cX7_most 34 = .ok (.putfield 240, 3) := by decide +kernel
theorem dX7_most_37 : decode cX7_most 37 = .ok (.iconst (-1), 1) := by decide +kernel
theorem dX7_most_38 : decode cX7_most 38 = .ok (.istore 4, 2) := by decide +kernel
theorem dX7_most_40 : decode cX7_most 40 = .ok (.iconst 0, 1) := by decide +kernel
theorem dX7_most_41 : decode cX7_most 41 = .ok (.istore 5, 2) := by decide +kernel
theorem dX7_most_43 : decode cX7_most 43 = .ok (.iload 5, 2) := by decide +kernel
theorem dX7_most_45 : decode cX7_most 45 = .ok (.iload_n 1, 1) := by decide +kernel
theorem dX7_most_46 : decode cX7_most 46 = .ok (.if_icmp .gt 120, 3) := by decide +kernel
theorem dX7_most_49 : decode cX7_most 49 = .ok (.iconst 0, 1) := by decide +kernel
theorem dX7_most_50 : decode cX7_most 50 = .ok (.istore 6, 2) := by decide +kernel
theorem dX7_most_52 : decode cX7_most 52 = .ok (.iload 6, 2) := by decide +kernel
theorem dX7_most_54 : decode cX7_most 54 = .ok (.iconst 1, 1) := by decide +kernel
theorem dX7_most_55 : decode cX7_most 55 = .ok (.aload_n 0, 1) := by decide +kernel
theorem dX7_most_56 : decode cX7_most 56 = .ok (.getfield 54, 3) := by decide +kernel
theorem dX7_most_59 : decode cX7_most 59 = .ok (.aload_n 0, 1) := by decide +kernel
theorem dX7_most_60 : decode cX7_most 60 = .ok (.getfield 51, 3) := by decide +kernel
theorem dX7_most_63 : decode cX7_most 63 = .ok (.iaload, 1) := by decide +kernel
theorem dX7_most_64 : decode cX7_most 64 = .ok (.ishl, 1) := by decide +kernel
theorem dX7_most_65 : decode cX7_most 65 = .ok (.if_icmp .ge 95, 3) := by decide +kernel
theorem dX7_most_68 : decode cX7_most 68 = .ok (.aload_n 0, 1) := by decide +kernel
theorem dX7_most_69 : decode cX7_most 69 = .ok (.getfield 231, 3) := by decide +kernel
theorem dX7_most_72 : decode cX7_most 72 = .ok (.sipush 1024, 3) := by decide +kernel
theorem dX7_most_75 : decode cX7_most 75 = .ok (.iload 5, 2) := by decide +kernel
theorem dX7_most_77 : decode cX7_most 77 = .ok (.imul, 1) := by decide +kernel
theorem dX7_most_78 : decode cX7_most 78 = .ok (.iload 6, 2) := by decide +kernel
theorem dX7_most_80 : decode cX7_most 80 = .ok (.iadd, 1) := by decide +kernel
theorem dX7_most_81 : decode cX7_most 81 = .ok (.iaload, 1) := by decide +kernel
theorem dX7_most_82 : decode cX7_most 82 = .ok (.istore 7, 2) := by decide +kernel
theorem dX7_most_84 : decode cX7_most 84 = .ok (.iload 7, 2) := by decide +kernel
theorem dX7_most_86 : decode cX7_most 86 = .ok (.iconst (-1), 1) := by decide +kernel
theorem dX7_most_87 : decode cX7_most 87 = .ok (.if_icmp .ne 6, 3) := by decide +kernel
theorem dX7_most_90 : decode cX7_most 90 = .ok (.goto 64, 3) := by decide +kernel
theorem dX7_most_93 : decode cX7_most 93 = .ok (.aload_n 0, 1) := by decide +kernel
theorem dX7_most_94 : decode cX7_most 94 = .ok (.iload 6, 2) := by decide +kernel
theorem dX7_most_96 : decode cX7_most 96 = .ok (.iload_n 3, 1) := by decide +kernel
theorem dX7_most_97 : decode cX7_most 97 = .ok (.iand, 1) := by decide +kernel
theorem dX7_most_98 : decode cX7_most 98 = .ok (.invokevirtual 490, 3) := by decide +kernel
theorem dX7_most_101 : decode cX7_most 101 = .ok (.istore 8, 2) := by decide +kernel
theorem dX7_most_103 : decode cX7_most 103 = .ok (.iload 8, 2) := by decide +kernel
theorem dX7_most_105 : decode cX7_most 105 = .ok (.iload 4, 2) := by decide +kernel
theorem dX7_most_107 : decode cX7_most 107 = .ok (.if_icmp .lt 47, 3) := by decide +kernel
theorem dX7_most_110 : decode cX7_most 110 = .ok (.iload 8, 2) := by decide +kernel
theorem dX7_most_112 : decode cX7_most 112 = .ok (.iload 4, 2) := by decide +kernel
theorem dX7_most_114 : decode cX7_most 114 = .ok (.if_icmp .ne 24, 3) := by decide +kernel
theorem dX7_most_117 : decode cX7_most 117 = .ok (.aload_n 0, 1) := by decide +kernel
theorem dX7_most_118 : decode cX7_most 118 = .ok (.getfield 240, 3) := by decide +kernel
theorem dX7_most_121 : decode cX7_most 121 = .ok (.iload 5, 2) := by decide +kernel
theorem dX7_most_123 : decode cX7_most 123 = .ok (.if_icmp .ne 31, 3) := by decide +kernel
theorem dX7_most_126 : decode cX7_most 126 = .ok (.iload 7, 2) := by decide +kernel
theorem dX7_most_128 : decode cX7_most 128 = .ok (.aload_n 0, 1) := by decide +kernel
theorem dX7_most_129 : decode cX7_most 129 = .ok (.invokevirtual 611, 3) := by decide +kernel
theorem dX7_most_132 : decode cX7_most 132 = .ok (.if_icmp .lt 6, 3) := by decide +kernel
theorem dX7_most_135 : decode cX7_most 135 = .ok (.goto 19, 3) := by decide +kernel
theorem dX7_most_138 : decode cX7_most 138 = .ok (.iload 8, 2) := by decide +kernel
theorem dX7_most_140 : decode cX7_most 140 = .ok (.istore 4, 2) := by decide +kernel
theorem dX7_most_142 : decode cX7_most 142 = .ok (.aload_n 0, 1) := by decide +kernel
theorem dX7_most_143 : decode cX7_most 143 = .ok (.iload 5, 2) := by decide +kernel
theorem dX7_most_145 : decode cX7_most 145 = .ok (.putfield 240, 3) := by decide +kernel
theorem dX7_most_148 : decode cX7_most 148 = .ok (.aload_n 0, 1) := by decide +kernel
theorem dX7_most_149 : decode cX7_most 149 = .ok (.iload 6, 2) := by decide +kernel
theorem dX7_most_151 : decode cX7_most 151 = .ok (.putfield 243, 3) := by decide +kernel
theorem dX7_most_154 : decode cX7_most 154 = .ok (.iinc 6 1, 3) := by decide +kernel
theorem dX7_most_157 : decode cX7_most 157 = .ok (.goto (-105), 3) := by decide +kernel
theorem dX7_most_160 : decode cX7_most 160 = .ok (.iinc 5 1, 3) := by decide +kernel
theorem dX7_most_163 : decode cX7_most 163 = .ok (.goto (-120), 3) := by decide +kernel
theorem dX7_most_166 : decode cX7_most 166 = .ok (.iload_n 2, 1) := by decide +kernel
theorem dX7_most_167 : decode cX7_most 167 = .ok (.ifCond .ne 8, 3) := by decide +kernel
theorem dX7_most_170 : decode cX7_most 170 = .ok (.iload 4, 2) := by decide +kernel
theorem dX7_most_172 : decode cX7_most 172 = .ok (.goto 31, 3) := by decide +kernel
theorem dX7_most_175 : decode cX7_most 175 = .ok (.iload_n 2, 1) := by decide +kernel
theorem dX7_most_176 : decode cX7_most 176 = .ok (.iconst 1, 1) := by decide +kernel
theorem dX7_most_177 : decode cX7_most 177 = .ok (.if_icmp .ne 10, 3) := by decide +kernel
theorem dX7_most_180 : decode cX7_most 180 = .ok (.aload_n 0, 1) := by decide +kernel
theorem dX7_most_181 : decode cX7_most 181 = .ok (.getfield 240, 3) := by decide +kernel
theorem dX7_most_184 : decode cX7_most 184 = .ok (.goto 19, 3) := by decide +kernel
theorem dX7_most_187 : decode cX7_most 187 = .ok (.iload_n 2, 1) := by decide +kernel
theorem dX7_most_188 : decode cX7_most 188 = .ok (.iconst 2, 1) := by decide +kernel
theorem dX7_most_189 : decode cX7_most 189 = .ok (.if_icmp .ne 10, 3) := by decide +kernel
theorem dX7_most_192 : decode cX7_most 192 = .ok (.aload_n 0, 1) := by decide +kernel
theorem dX7_most_193 : decode cX7_most 193 = .ok (.invokevirtual 611, 3) := by decide +kernel
theorem dX7_most_196 : decode cX7_most 196 = .ok (.goto 7, 3) := by decide +kernel
theorem dX7_most_199 : decode cX7_most 199 = .ok (.aload_n 0, 1) := by decide +kernel
theorem dX7_most_200 : decode cX7_most 200 = .ok (.getfield 243, 3) := by decide +kernel
theorem dX7_most_203 : decode cX7_most 203 = .ok (.ireturn, 1) := by decide +kernel
set_option maxRecDepth 20000 in
theorem ggX7_ends_X7_is : GoodIn wsX7_ends wsX7_is := goodIn_r _ [6] rfl (by decide +kernel)
set_option maxRecDepth 20000 in
theorem gX7_ends_X7_is : GoodIn wsX7_ends (va_wsS RX7 381 yX7_is wsX7_is) := goodIn_app (goodIn_of _ (by decide +kernel)) ggX7_ends_X7_is
set_option maxRecDepth 20000 in
theorem ggX7_ends_X7_finds : GoodIn wsX7_ends wsX7_finds := goodIn_r _ [10, 1, 11, 12, 13, 2, 14, 15, 16, 5, 17, 18, 19, 20, 21, 22, 23, 24, 25, 26, 27, 28, 29, 30, 31, 32, 33, 34, 35, 36, 37, 38, 39, 40, 41, 42, 43, 44, 45, 46, 47, 48, 49, 50, 51, 52, 53, 54, 55, 56, 57, 58, 59, 60, 61, 62, 63, 64, 65, 66, 67, 68, 69, 70, 71, 72, 73, 74, 75, 76, 77, 78, 79, 80, 81, 82, 83, 84, 85, 86, 87, 88, 89, 90, 91, 92, 93, 94, 95, 96, 97, 98, 99, 100, 101, 102, 103, 104, 105, 106, 107, 108, 109, 110, 111, 112, 113, 114, 115, 116, 117, 118, 119, 120, 121, 122, 123, 124, 125, 126, 127, 128, 129, 130, 131, 132, 133, 134, 135, 136, 137, 138, 139, 140, 141, 142, 143, 144, 145, 146, 147, 148, 149, 150, 151, 152, 153, 154, 155, 156, 157, 158, 159, 160, 161, 162, 163, 164, 165, 166, 167, 168, 169, 170, 171, 172, 173, 174, 175, 176, 177, 178, 179, 180, 181, 182, 183, 184, 185, 186, 187, 188, 189, 190, 191, 192, 193, 194, 195, 196, 197, 198, 199, 200, 201, 202, 203, 204, 205, 206, 207, 208, 209, 210, 211, 212, 213, 214, 215, 216, 217] rfl (by decide +kernel)
set_option maxRecDepth 20000 in
theorem gX7_ends_X7_finds : GoodIn wsX7_ends (wsV RX7 614 RX7 yX7_finds wsX7_finds) := goodIn_app (goodIn_of _ (by decide +kernel)) ggX7_ends_X7_finds
set_option maxRecDepth 20000 in
theorem ggX7_ends_X7_foundSea : GoodIn wsX7_ends wsX7_foundSea := goodIn_r _ [125, 13, 1, 2, 126, 127, 128, 129, 130, 131, 132, 133, 134, 135, 136, 137, 138, 139, 140, 141, 142, 143, 144, 145, 146, 147, 148, 149, 150, 151, 152, 153, 154, 155, 156, 157, 158, 159, 160, 161, 162, 163, 164, 165, 166, 167, 168, 169, 170, 171, 172, 173, 174, 175, 176, 177, 178, 179, 180, 181, 182, 183, 184, 185, 186, 187, 188, 189, 190, 191, 192, 193, 194, 195, 196, 197, 198, 199, 200, 201, 202, 203, 204, 205, 206, 207, 208, 209, 210, 211, 212, 213, 214, 215, 216, 217] rfl (by decide +kernel)
set_option maxRecDepth 20000 in
theorem gX7_ends_X7_foundSea : GoodIn wsX7_ends (wsV RX7 611 RX7 yX7_foundSea wsX7_foundSea) := goodIn_app (goodIn_of _ (by decide +kernel)) ggX7_ends_X7_foundSea
theorem dX7_ends_0 : decode cX7_ends 0 = .ok (.iload_n 1, 1) := by decide +kernel
theorem dX7_ends_1 : decode cX7_ends 1 = .ok (.iconst 0, 1) := by decide +kernel
theorem dX7_ends_2 : decode cX7_ends 2 = .ok (.iconst 2, 1) := by decide +kernel
theorem dX7_ends_3 : decode cX7_ends 3 = .ok (.invokestatic 381, 3) := by decide +kernel
theorem dX7_ends_6 : decode cX7_ends 6 = .ok (.ifCond .ne 5, 3) := by decide +kernel
theorem dX7_ends_9 : decode cX7_ends 9 = .ok (.iconst (-1), 1) := by decide +kernel
theorem dX7_ends_10 : decode cX7_ends 10 = .ok (.ireturn, 1) := by decide +kernel
theorem dX7_ends_11 : decode cX7_ends 11 = .ok (.aload_n 0, 1) := by decide +kernel
theorem dX7_ends_12 : decode cX7_ends 12 = .ok (.iconst (-1), 1) := by decide +kernel
theorem dX7_ends_13 : decode cX7_ends 13 = .ok (.invokevirtual 614, 3) := by decide +kernel
theorem dX7_ends_16 : decode cX7_ends 16 = .ok (.aload_n 0, 1) := by decide +kernel
theorem dX7_ends_17 : decode cX7_ends 17 = .ok (.getfield 240, 3) := by decide +kernel
theorem dX7_ends_20 : decode cX7_ends 20 = .ok (.iconst (-1), 1) := by decide +kernel
theorem dX7_ends_21 : decode cX7_ends 21 = .ok (.if_icmp .ne 7, 3) := by decide +kernel
theorem dX7_ends_24 : decode cX7_ends 24 = .ok (.iconst (-1), 1) := by decide +kernel
theorem dX7_ends_25 : decode cX7_ends 25 = .ok (.goto 30, 3) := by decide +kernel
theorem dX7_ends_28 : decode cX7_ends 28 = .ok (.iload_n 1, 1) := by decide +kernel
theorem dX7_ends_29 : decode cX7_ends 29 = .ok (.ifCond .ne 10, 3) := by decide +kernel
theorem dX7_ends_32 : decode cX7_ends 32 = .ok (.aload_n 0, 1) := by decide +kernel
theorem dX7_ends_33 : decode cX7_ends 33 = .ok (.getfield 240, 3) := by decide +kernel
theorem dX7_ends_36 : decode cX7_ends 36 = .ok (.goto 19, 3) := by decide +kernel
theorem dX7_ends_39 : decode cX7_ends 39 = .ok (.iload_n 1, 1) := by decide +kernel
theorem dX7_ends_40 : decode cX7_ends 40 = .ok (.iconst 1, 1) := by decide +kernel
theorem dX7_ends_41 : decode cX7_ends 41 = .ok (.if_icmp .ne 10, 3) := by decide +kernel
theorem dX7_ends_44 : decode cX7_ends 44 = .ok (.aload_n 0, 1) := by decide +kernel
theorem dX7_ends_45 : decode cX7_ends 45 = .ok (.invokevirtual 611, 3) := by decide +kernel
theorem dX7_ends_48 : decode cX7_ends 48 = .ok (.goto 7, 3) := by decide +kernel
theorem dX7_ends_51 : decode cX7_ends 51 = .ok (.aload_n 0, 1) := by decide +kernel
theorem dX7_ends_52 : decode cX7_ends 52 = .ok (.getfield 243, 3) := by decide +kernel
theorem dX7_ends_55 : decode cX7_ends 55 = .ok (.ireturn, 1) := by decide +kernel
set_option maxRecDepth 20000 in
theorem ggX7_falls_X7_refuses : GoodIn wsX7_falls wsX7_refuses := goodIn_r _ [10, 11, 12, 13, 14, 15, 16, 17, 18, 19, 20, 21, 22, 23, 24, 25, 26, 27, 28, 29, 30, 31, 32, 33, 34, 35, 36, 37, 38, 39, 40, 41, 42, 43, 44, 45, 46, 47, 48, 49, 50, 51, 52, 53, 54, 55, 56, 57, 58, 59, 60, 61, 62, 63, 64, 65, 66, 67, 68, 69, 70, 71, 72, 73, 74, 75, 76, 77, 78, 79, 80, 81, 82, 83, 84, 85, 86, 87, 88, 89, 90, 91, 92, 93, 94, 95, 96, 97, 98, 99, 100, 101, 102, 103] rfl (by decide +kernel)
set_option maxRecDepth 20000 in
theorem gX7_falls_X7_refuses : GoodIn wsX7_falls (wsV RX7 291 RX7 yX7_refuses wsX7_refuses) := goodIn_app (goodIn_of _ (by decide +kernel)) ggX7_falls_X7_refuses
theorem dX7_falls_0 : decode cX7_falls 0 = .ok (.aload_n 0, 1) := by decide +kernel
theorem dX7_falls_1 : decode cX7_falls 1 = .ok (.getfield 13, 3) := by decide +kernel
theorem dX7_falls_4 : decode cX7_falls 4 = .ok (.istore_n 1, 1) := by decide +kernel
theorem dX7_falls_5 : decode cX7_falls 5 = .ok (.aload_n 0, 1) := by decide +kernel
theorem dX7_falls_6 : decode cX7_falls 6 = .ok (.iconst 0, 1) := by decide +kernel
theorem dX7_falls_7 : decode cX7_falls 7 = .ok (.putfield 13, 3) := by decide +kernel
theorem dX7_falls_10 : decode cX7_falls 10 = .ok (.iload_n 1, 1) := by decide +kernel
theorem dX7_falls_11 : decode cX7_falls 11 = .ok (.ifCond .le 19, 3) := by decide +kernel
theorem dX7_falls_14 : decode cX7_falls 14 = .ok (.iload_n 1, 1) := by decide +kernel
theorem dX7_falls_15 : decode cX7_falls 15 = .ok (.iconst 3, 1) := by decide +kernel
theorem dX7_falls_16 : decode cX7_falls 16 = .ok (.irem, 1) := by decide +kernel
theorem dX7_falls_17 : decode cX7_falls 17 = .ok (.ifCond .ne 13, 3) := by decide +kernel
theorem dX7_falls_20 : decode cX7_falls 20 = .ok (.iload_n 1, 1) := by decide +kernel
theorem dX7_falls_21 : decode cX7_falls 21 = .ok (.bipush 60, 2) := by decide +kernel
theorem dX7_falls_23 : decode cX7_falls 23 = .ok (.if_icmp .gt 7, 3) := by decide +kernel
theorem dX7_falls_26 : decode cX7_falls 26 = .ok (.iconst 1, 1) := by decide +kernel
theorem dX7_falls_27 : decode cX7_falls 27 = .ok (.goto 4, 3) := by decide +kernel
theorem dX7_falls_30 : decode cX7_falls 30 = .ok (.iconst 0, 1) := by decide +kernel
theorem dX7_falls_31 : decode cX7_falls 31 = .ok (.istore_n 2, 1) := by decide +kernel
theorem dX7_falls_32 : decode cX7_falls 32 = .ok (.iconst 2, 1) := by decide +kernel
theorem dX7_falls_33 : decode cX7_falls 33 = .ok (.istore_n 3, 1) := by decide +kernel
theorem dX7_falls_34 : decode cX7_falls 34 = .ok (.iload_n 3, 1) := by decide +kernel
theorem dX7_falls_35 : decode cX7_falls 35 = .ok (.iload_n 1, 1) := by decide +kernel
theorem dX7_falls_36 : decode cX7_falls 36 = .ok (.if_icmp .ge 29, 3) := by decide +kernel
theorem dX7_falls_39 : decode cX7_falls 39 = .ok (.iload_n 2, 1) := by decide +kernel
theorem dX7_falls_40 : decode cX7_falls 40 = .ok (.ifCond .eq 25, 3) := by decide +kernel
theorem dX7_falls_43 : decode cX7_falls 43 = .ok (.aload_n 0, 1) := by decide +kernel
theorem dX7_falls_44 : decode cX7_falls 44 = .ok (.getfield 7, 3) := by decide +kernel
theorem dX7_falls_47 : decode cX7_falls 47 = .ok (.iload_n 3, 1) := by decide +kernel
theorem dX7_falls_48 : decode cX7_falls 48 = .ok (.iaload, 1) := by decide +kernel
theorem dX7_falls_49 : decode cX7_falls 49 = .ok (.iconst 2, 1) := by decide +kernel
theorem dX7_falls_50 : decode cX7_falls 50 = .ok (.if_icmp .ge 7, 3) := by decide +kernel
theorem dX7_falls_53 : decode cX7_falls 53 = .ok (.iconst 1, 1) := by decide +kernel
theorem dX7_falls_54 : decode cX7_falls 54 = .ok (.goto 4, 3) := by decide +kernel
theorem dX7_falls_57 : decode cX7_falls 57 = .ok (.iconst 0, 1) := by decide +kernel
theorem dX7_falls_58 : decode cX7_falls 58 = .ok (.istore_n 2, 1) := by decide +kernel
theorem dX7_falls_59 : decode cX7_falls 59 = .ok (.iinc 3 3, 3) := by decide +kernel
theorem dX7_falls_62 : decode cX7_falls 62 = .ok (.goto (-28), 3) := by decide +kernel
theorem dX7_falls_65 : decode cX7_falls 65 = .ok (.iload_n 2, 1) := by decide +kernel
theorem dX7_falls_66 : decode cX7_falls 66 = .ok (.ifCond .ne 9, 3) := by decide +kernel
theorem dX7_falls_69 : decode cX7_falls 69 = .ok (.aload_n 0, 1) := by decide +kernel
theorem dX7_falls_70 : decode cX7_falls 70 = .ok (.iconst 5, 1) := by decide +kernel
theorem dX7_falls_71 : decode cX7_falls 71 = .ok (.invokevirtual 291, 3) := by decide +kernel
theorem dX7_falls_74 : decode cX7_falls 74 = .ok (.ireturn, 1) := by decide +kernel
theorem dX7_falls_75 : decode cX7_falls 75 = .ok (.aload_n 0, 1) := by decide +kernel
theorem dX7_falls_76 : decode cX7_falls 76 = .ok (.iload_n 1, 1) := by decide +kernel
theorem dX7_falls_77 : decode cX7_falls 77 = .ok (.iconst 3, 1) := by decide +kernel
theorem dX7_falls_78 : decode cX7_falls 78 = .ok (.idiv, 1) := by decide +kernel
theorem dX7_falls_79 : decode cX7_falls 79 = .ok (.putfield 246, 3) := by decide +kernel
theorem dX7_falls_82 : decode cX7_falls 82 = .ok (.iconst 0, 1) := by decide +kernel
theorem dX7_falls_83 : decode cX7_falls 83 = .ok (.istore_n 3, 1) := by decide +kernel
theorem dX7_falls_84 : decode cX7_falls 84 = .ok (.iload_n 3, 1) := by decide +kernel
theorem dX7_falls_85 : decode cX7_falls 85 = .ok (.aload_n 0, 1) := by decide +kernel
theorem dX7_falls_86 : decode cX7_falls 86 = .ok (.getfield 246, 3) := by decide +kernel
theorem dX7_falls_89 : decode cX7_falls 89 = .ok (.if_icmp .ge 53, 3) := by decide +kernel
theorem dX7_falls_92 : decode cX7_falls 92 = .ok (.aload_n 0, 1) := by decide +kernel
theorem dX7_falls_93 : decode cX7_falls 93 = .ok (.getfield 249, 3) := by decide +kernel
theorem dX7_falls_96 : decode cX7_falls 96 = .ok (.iload_n 3, 1) := by decide +kernel
theorem dX7_falls_97 : decode cX7_falls 97 = .ok (.aload_n 0, 1) := by decide +kernel
theorem dX7_falls_98 : decode cX7_falls 98 = .ok (.getfield 7, 3) := by decide +kernel
theorem dX7_falls_101 : decode cX7_falls 101 = .ok (.iconst 3, 1) := by decide +kernel
theorem dX7_falls_102 : decode cX7_falls 102 = .ok (.iload_n 3, 1) := by decide +kernel
theorem dX7_falls_103 : decode cX7_falls 103 = .ok (.imul, 1) := by decide +kernel
theorem dX7_falls_104 : decode cX7_falls 104 = .ok (.iaload, 1) := by decide +kernel
theorem dX7_falls_105 : decode cX7_falls 105 = .ok (.bipush 8, 2) := by decide +kernel
theorem dX7_falls_107 : decode cX7_falls 107 = .ok (.ishl, 1) := by decide +kernel
theorem dX7_falls_108 : decode cX7_falls 108 = .ok (.aload_n 0, 1) := by decide +kernel
theorem dX7_falls_109 : decode cX7_falls 109 = .ok (.getfield 7, 3) := by decide +kernel
theorem dX7_falls_112 : decode cX7_falls 112 = .ok (.iconst 3, 1) := by decide +kernel
theorem dX7_falls_113 : decode cX7_falls 113 = .ok (.iload_n 3, 1) := by decide +kernel
theorem dX7_falls_114 : decode cX7_falls 114 = .ok (.imul, 1) := by decide +kernel
theorem dX7_falls_115 : decode cX7_falls 115 = .ok (.iconst 1, 1) := by decide +kernel
theorem dX7_falls_116 : decode cX7_falls 116 = .ok (.iadd, 1) := by decide +kernel
theorem dX7_falls_117 : decode cX7_falls 117 = .ok (.iaload, 1) := by decide +kernel
theorem dX7_falls_118 : decode cX7_falls 118 = .ok (.ior, 1) := by decide +kernel
theorem dX7_falls_119 : decode cX7_falls 119 = .ok (.iastore, 1) := by decide +kernel
theorem dX7_falls_120 : decode cX7_falls 120 = .ok (.aload_n 0, 1) := by decide +kernel
theorem dX7_falls_121 : decode cX7_falls 121 = .ok (.getfield 252, 3) := by decide +kernel
theorem dX7_falls_124 : decode cX7_falls 124 = .ok (.iload_n 3, 1) := by decide +kernel
theorem dX7_falls_125 : decode cX7_falls 125 = .ok (.aload_n 0, 1) := by decide +kernel
theorem dX7_falls_126 : decode cX7_falls 126 = .ok (.getfield 7, 3) := by decide +kernel
theorem dX7_falls_129 : decode cX7_falls 129 = .ok (.iconst 3, 1) := by decide +kernel
theorem dX7_falls_130 : decode cX7_falls 130 = .ok (.iload_n 3, 1) := by decide +kernel
theorem dX7_falls_131 : decode cX7_falls 131 = .ok (.imul, 1) := by decide +kernel
theorem dX7_falls_132 : decode cX7_falls 132 = .ok (.iconst 2, 1) := by decide +kernel
theorem dX7_falls_133 : decode cX7_falls 133 = .ok (.iadd, 1) := by decide +kernel
theorem dX7_falls_134 : decode cX7_falls 134 = .ok (.iaload, 1) := by decide +kernel
theorem dX7_falls_135 : decode cX7_falls 135 = .ok (.iastore, 1) := by decide +kernel
theorem dX7_falls_136 : decode cX7_falls 136 = .ok (.iinc 3 1, 3) := by decide +kernel
theorem dX7_falls_139 : decode cX7_falls 139 = .ok (.goto (-55), 3) := by decide +kernel
theorem dX7_falls_142 : decode cX7_falls 142 = .ok (.aload_n 0, 1) := by decide +kernel
theorem dX7_falls_143 : decode cX7_falls 143 = .ok (.getfield 246, 3) := by decide +kernel
theorem dX7_falls_146 : decode cX7_falls 146 = .ok (.ireturn, 1) := by decide +kernel
theorem dX7_canBear_0 : decode cX7_canBear 0 = .ok (.iconst 0, 1) := by decide +kernel
theorem dX7_canBear_1 : decode cX7_canBear 1 = .ok (.istore_n 2, 1) := by decide +kernel
theorem dX7_canBear_2 : decode cX7_canBear 2 = .ok (.iload_n 2, 1) := by decide +kernel
theorem dX7_canBear_3 : decode cX7_canBear 3 = .ok (.aload_n 0, 1) := by decide +kernel
theorem dX7_canBear_4 : decode cX7_canBear 4 = .ok (.getfield 246, 3) := by decide +kernel
theorem dX7_canBear_7 : decode cX7_canBear 7 = .ok (.if_icmp .ge 35, 3) := by decide +kernel
theorem dX7_canBear_10 : decode cX7_canBear 10 = .ok (.aload_n 0, 1) := by decide +kernel
theorem dX7_canBear_11 : decode cX7_canBear 11 = .ok (.getfield 249, 3) := by decide +kernel
theorem dX7_canBear_14 : decode cX7_canBear 14 = .ok (.iload_n 2, 1) := by decide +kernel
theorem dX7_canBear_15 : decode cX7_canBear 15 = .ok (.iaload, 1) := by decide +kernel
theorem dX7_canBear_16 : decode cX7_canBear 16 = .ok (.iload_n 1, 1) := by decide +kernel
theorem dX7_canBear_17 : decode cX7_canBear 17 = .ok (.if_icmp .le 7, 3) := by decide +kernel
theorem dX7_canBear_20 : decode cX7_canBear 20 = .ok (.iconst 1, 1) := by decide +kernel
theorem dX7_canBear_21 : decode cX7_canBear 21 = .ok (.goto 4, 3) := by decide +kernel
theorem dX7_canBear_24 : decode cX7_canBear 24 = .ok (.iconst 0, 1) := by decide +kernel
theorem dX7_canBear_25 : decode cX7_canBear 25 = .ok (.aload_n 0, 1) := by decide +kernel
theorem dX7_canBear_26 : decode cX7_canBear 26 = .ok (.getfield 252, 3) := by decide +kernel
theorem dX7_canBear_29 : decode cX7_canBear 29 = .ok (.iload_n 2, 1) := by decide +kernel
theorem dX7_canBear_30 : decode cX7_canBear 30 = .ok (.iaload, 1) := by decide +kernel
theorem dX7_canBear_31 : decode cX7_canBear 31 = .ok (.if_icmp .eq 5, 3) := by decide +kernel
theorem dX7_canBear_34 : decode cX7_canBear 34 = .ok (.iconst 0, 1) := by decide +kernel
theorem dX7_canBear_35 : decode cX7_canBear 35 = .ok (.ireturn, 1) := by decide +kernel
theorem dX7_canBear_36 : decode cX7_canBear 36 = .ok (.iinc 2 1, 3) := by decide +kernel
theorem dX7_canBear_39 : decode cX7_canBear 39 = .ok (.goto (-37), 3) := by decide +kernel
theorem dX7_canBear_42 : decode cX7_canBear 42 = .ok (.iconst 1, 1) := by decide +kernel
theorem dX7_canBear_43 : decode cX7_canBear 43 = .ok (.ireturn, 1) := by decide +kernel
set_option maxRecDepth 20000 in
theorem ggX7_bears_X7_is : GoodIn wsX7_bears wsX7_is := goodIn_r _ [4] rfl (by decide +kernel)
set_option maxRecDepth 20000 in
theorem gX7_bears_X7_is : GoodIn wsX7_bears (va_wsS RX7 381 yX7_is wsX7_is) := goodIn_app (goodIn_of _ (by decide +kernel)) ggX7_bears_X7_is
set_option maxRecDepth 20000 in
theorem ggX7_bears_X7_canBear : GoodIn wsX7_bears wsX7_canBear := goodIn_r _ [8, 9, 10, 11, 12, 13, 14, 15, 16, 17, 18, 19, 20, 21, 22, 23, 24, 25, 26, 27, 28, 29, 30, 31, 32, 33, 34, 35, 36, 37, 38, 39, 40, 41, 42, 43, 44, 45, 46, 47, 48, 49, 50, 51, 52, 53, 54, 55, 56, 57, 58, 59, 60, 61, 62, 63, 64, 65, 66, 67, 68, 69, 70, 71, 72, 73, 74, 75, 76, 77, 78, 79, 80, 81, 82, 83, 84, 85, 86, 87, 88, 89, 90, 91, 92, 93, 94, 95, 96, 97, 98, 99, 100, 101, 102, 103] rfl (by decide +kernel)
set_option maxRecDepth 20000 in
theorem gX7_bears_X7_canBear : GoodIn wsX7_bears (wsV RX7 620 RX7 yX7_canBear wsX7_canBear) := goodIn_app (goodIn_of _ (by decide +kernel)) ggX7_bears_X7_canBear
theorem dX7_bears_0 : decode cX7_bears 0 = .ok (.iload_n 1, 1) := by decide +kernel
theorem dX7_bears_1 : decode cX7_bears 1 = .ok (.iconst 0, 1) := by decide +kernel
theorem dX7_bears_2 : decode cX7_bears 2 = .ok (.iconst 2, 1) := by decide +kernel
theorem dX7_bears_3 : decode cX7_bears 3 = .ok (.invokestatic 381, 3) := by decide +kernel
theorem dX7_bears_6 : decode cX7_bears 6 = .ok (.ifCond .ne 5, 3) := by decide +kernel
theorem dX7_bears_9 : decode cX7_bears 9 = .ok (.iconst (-1), 1) := by decide +kernel
theorem dX7_bears_10 : decode cX7_bears 10 = .ok (.ireturn, 1) := by decide +kernel
theorem dX7_bears_11 : decode cX7_bears 11 = .ok (.iconst 0, 1) := by decide +kernel
theorem dX7_bears_12 : decode cX7_bears 12 = .ok (.istore_n 2, 1) := by decide +kernel
theorem dX7_bears_13 : decode cX7_bears 13 = .ok (.iconst (-1), 1) := by decide +kernel
theorem dX7_bears_14 : decode cX7_bears 14 = .ok (.istore_n 3, 1) := by decide +kernel
theorem dX7_bears_15 : decode cX7_bears 15 = .ok (.iconst (-1), 1) := by decide +kernel
theorem dX7_bears_16 : decode cX7_bears 16 = .ok (.istore 4, 2) := by decide +kernel
theorem dX7_bears_18 : decode cX7_bears 18 = .ok (.iconst 1, 1) := by decide +kernel
theorem dX7_bears_19 : decode cX7_bears 19 = .ok (.istore 5, 2) := by decide +kernel
theorem dX7_bears_21 : decode cX7_bears 21 = .ok (.iload 5, 2) := by decide +kernel
theorem dX7_bears_23 : decode cX7_bears 23 = .ok (.sipush 999, 3) := by decide +kernel
theorem dX7_bears_26 : decode cX7_bears 26 = .ok (.if_icmp .gt 40, 3) := by decide +kernel
theorem dX7_bears_29 : decode cX7_bears 29 = .ok (.aload_n 0, 1) := by decide +kernel
theorem dX7_bears_30 : decode cX7_bears 30 = .ok (.iload 5, 2) := by decide +kernel
theorem dX7_bears_32 : decode cX7_bears 32 = .ok (.invokevirtual 620, 3) := by decide +kernel
theorem dX7_bears_35 : decode cX7_bears 35 = .ok (.ifCond .ne 6, 3) := by decide +kernel
theorem dX7_bears_38 : decode cX7_bears 38 = .ok (.goto 22, 3) := by decide +kernel
theorem dX7_bears_41 : decode cX7_bears 41 = .ok (.iinc 2 1, 3) := by decide +kernel
theorem dX7_bears_44 : decode cX7_bears 44 = .ok (.iload_n 3, 1) := by decide +kernel
theorem dX7_bears_45 : decode cX7_bears 45 = .ok (.iconst (-1), 1) := by decide +kernel
theorem dX7_bears_46 : decode cX7_bears 46 = .ok (.if_icmp .ne 8, 3) := by decide +kernel
theorem dX7_bears_49 : decode cX7_bears 49 = .ok (.iload 5, 2) := by decide +kernel
theorem dX7_bears_51 : decode cX7_bears 51 = .ok (.goto 4, 3) := by decide +kernel
theorem dX7_bears_54 : decode cX7_bears 54 = .ok (.iload_n 3, 1) := by decide +kernel
theorem dX7_bears_55 : decode cX7_bears 55 = .ok (.istore_n 3, 1) := by decide +kernel
theorem dX7_bears_56 : decode cX7_bears 56 = .ok (.iload 5, 2) := by decide +kernel
theorem dX7_bears_58 : decode cX7_bears 58 = .ok (.istore 4, 2) := by decide +kernel
theorem dX7_bears_60 : decode cX7_bears 60 = .ok (.iinc 5 1, 3) := by decide +kernel
theorem dX7_bears_63 : decode cX7_bears 63 = .ok (.goto (-42), 3) := by decide +kernel
theorem dX7_bears_66 : decode cX7_bears 66 = .ok (.iload_n 1, 1) := by decide +kernel
theorem dX7_bears_67 : decode cX7_bears 67 = .ok (.ifCond .ne 7, 3) := by decide +kernel
theorem dX7_bears_70 : decode cX7_bears 70 = .ok (.iload_n 2, 1) := by decide +kernel
theorem dX7_bears_71 : decode cX7_bears 71 = .ok (.goto 14, 3) := by decide +kernel
theorem dX7_bears_74 : decode cX7_bears 74 = .ok (.iload_n 1, 1) := by decide +kernel
theorem dX7_bears_75 : decode cX7_bears 75 = .ok (.iconst 1, 1) := by decide +kernel
theorem dX7_bears_76 : decode cX7_bears 76 = .ok (.if_icmp .ne 7, 3) := by decide +kernel
theorem dX7_bears_79 : decode cX7_bears 79 = .ok (.iload_n 3, 1) := by decide +kernel
theorem dX7_bears_80 : decode cX7_bears 80 = .ok (.goto 5, 3) := by decide +kernel
theorem dX7_bears_83 : decode cX7_bears 83 = .ok (.iload 4, 2) := by decide +kernel
theorem dX7_bears_85 : decode cX7_bears 85 = .ok (.ireturn, 1) := by decide +kernel
set_option maxRecDepth 20000 in
theorem ggX7_goesRow_X7_worthOf : GoodIn wsX7_goesRow wsX7_worthOf := goodIn_r _ [12, 13, 14, 15, 16, 17, 11, 18, 99, 100, 101, 102, 103, 104, 105, 106, 107, 108, 109, 110, 111, 112, 113, 114, 115, 116, 117, 118, 119, 120, 121, 122, 123, 124, 125, 126, 127, 128, 129, 130, 131, 132, 133, 134, 135, 136, 137, 138, 139, 140, 141, 142, 143, 144, 145, 146, 147, 148, 149, 150, 151, 152, 153, 154, 155, 156, 157, 158, 159, 160, 161, 162, 163, 164, 165, 166, 167, 168, 169, 170, 171, 172, 173, 174, 175, 176, 177, 178, 179, 180, 181, 182, 183, 184, 185, 186, 187, 188, 189, 190] rfl (by decide +kernel)
set_option maxRecDepth 20000 in
theorem gX7_goesRow_X7_worthOf : GoodIn wsX7_goesRow (wsV RX7 490 RX7 yX7_worthOf wsX7_worthOf) := goodIn_app (goodIn_of _ (by decide +kernel)) ggX7_goesRow_X7_worthOf
set_option maxRecDepth 20000 in
theorem ggX7_goesRow_X7_asks : GoodIn wsX7_goesRow wsX7_asks := goodIn_r _ [22, 23, 24, 25, 26, 99, 100, 101, 102, 103, 104, 105, 106, 107, 108, 109, 110, 111, 112, 113, 114, 115, 116, 117, 118, 119, 120, 121, 122, 123, 124, 125, 126, 127, 128, 129, 130, 131, 132, 133, 134, 135, 136, 137, 138, 139, 140, 141, 142, 143, 144, 145, 146, 147, 148, 149, 150, 151, 152, 153, 154, 155, 156, 157, 158, 159, 160, 161, 162, 163, 164, 165, 166, 167, 168, 169, 170, 171, 172, 173, 174, 175, 176, 177, 178, 179, 180, 181, 182, 183, 184, 185, 186, 187, 188, 189, 190] rfl (by decide +kernel)
