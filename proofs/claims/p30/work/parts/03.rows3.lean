theorem dX7_opens_19 : decode cX7_opens 19 = .ok (.getfield 36, 3) := by decide +kernel
theorem dX7_opens_22 : decode cX7_opens 22 = .ok (.ifCond .le 4, 3) := by decide +kernel
theorem dX7_opens_25 : decode cX7_opens 25 = .ok (.return_, 1) := by decide +kernel
theorem dX7_opens_26 : decode cX7_opens 26 = .ok (.aload_n 0, 1) := by decide +kernel
theorem dX7_opens_27 : decode cX7_opens 27 = .ok (.dup, 1) := by decide +kernel
theorem dX7_opens_28 : decode cX7_opens 28 = .ok (.getfield 146, 3) := by decide +kernel
theorem dX7_opens_31 : decode cX7_opens 31 = .ok (.iconst 1, 1) := by decide +kernel
theorem dX7_opens_32 : decode cX7_opens 32 = .ok (.iadd, 1) := by decide +kernel
theorem dX7_opens_33 : decode cX7_opens 33 = .ok (.putfield 146, 3) := by decide +kernel
theorem dX7_opens_36 : decode cX7_opens 36 = .ok (.aload_n 0, 1) := by decide +kernel
theorem dX7_opens_37 : decode cX7_opens 37 = .ok (.invokevirtual 320, 3) := by decide +kernel
theorem dX7_opens_40 : decode cX7_opens 40 = .ok (.aload_n 0, 1) := by decide +kernel
theorem dX7_opens_41 : decode cX7_opens 41 = .ok (.iload_n 1, 1) := by decide +kernel
theorem dX7_opens_42 : decode cX7_opens 42 = .ok (.invokevirtual 391, 3) := by decide +kernel
theorem dX7_opens_45 : decode cX7_opens 45 = .ok (.return_, 1) := by decide +kernel
theorem dX7_isTest_0 : decode cX7_isTest 0 = .ok (.iload_n 0, 1) := by decide +kernel
theorem dX7_isTest_1 : decode cX7_isTest 1 = .ok (.iconst 1, 1) := by decide +kernel
theorem dX7_isTest_2 : decode cX7_isTest 2 = .ok (.if_icmp .eq 8, 3) := by decide +kernel
theorem dX7_isTest_5 : decode cX7_isTest 5 = .ok (.iload_n 0, 1) := by decide +kernel
theorem dX7_isTest_6 : decode cX7_isTest 6 = .ok (.iconst 5, 1) := by decide +kernel
theorem dX7_isTest_7 : decode cX7_isTest 7 = .ok (.if_icmp .ne 7, 3) := by decide +kernel
theorem dX7_isTest_10 : decode cX7_isTest 10 = .ok (.iconst 1, 1) := by decide +kernel
theorem dX7_isTest_11 : decode cX7_isTest 11 = .ok (.goto 4, 3) := by decide +kernel
theorem dX7_isTest_14 : decode cX7_isTest 14 = .ok (.iconst 0, 1) := by decide +kernel
theorem dX7_isTest_15 : decode cX7_isTest 15 = .ok (.ireturn, 1) := by decide +kernel
set_option maxRecDepth 20000 in
theorem ggX7_operand_X7_lex : GoodIn wsX7_operand wsX7_lex := goodIn_r _ [26, 27, 28, 29, 30, 25, 31, 1, 32, 99, 100, 101, 102, 103, 104, 105, 106, 107, 108, 109, 110, 111, 112, 113, 114, 115, 116, 117, 118, 119, 120, 121, 122, 123, 124, 125, 126, 127, 128, 129, 130, 131, 132, 133, 134, 135, 136, 137, 138, 139, 140, 141, 142, 143, 144, 145, 146, 147, 148, 149, 150, 151, 152, 153, 154, 155, 156, 157, 158, 159, 160, 161, 162, 163, 164, 165, 166, 167, 168, 169, 170, 171, 172, 173, 174, 175, 176, 177, 178, 179, 180, 181, 182, 183, 184, 185, 186, 187, 188, 189, 190] rfl (by decide +kernel)
set_option maxRecDepth 20000 in
theorem gX7_operand_X7_lex : GoodIn wsX7_operand (wsV RX7 314 RX7 yX7_lex wsX7_lex) := goodIn_app (goodIn_of _ (by decide +kernel)) ggX7_operand_X7_lex
set_option maxRecDepth 20000 in
theorem ggX7_operand_X7_isTest : GoodIn wsX7_operand wsX7_isTest := goodIn_r _ [35] rfl (by decide +kernel)
set_option maxRecDepth 20000 in
theorem gX7_operand_X7_isTest : GoodIn wsX7_operand (va_wsS RX7 394 yX7_isTest wsX7_isTest) := goodIn_app (goodIn_of _ (by decide +kernel)) ggX7_operand_X7_isTest
set_option maxRecDepth 20000 in
theorem ggX7_operand_X7_isWord : GoodIn wsX7_operand wsX7_isWord := goodIn_r _ [39, 13, 40, 99, 100, 101, 102, 103, 104, 105, 106, 107, 108, 109, 110, 111, 112, 113, 114, 115, 116, 117, 118, 119, 120, 121, 122, 123, 124, 125, 126, 127, 128, 129, 130, 131, 132, 133, 134, 135, 136, 137, 138, 139, 140, 141, 142, 143, 144, 145, 146, 147, 148, 149, 150, 151, 152, 153, 154, 155, 156, 157, 158, 159, 160, 161, 162, 163, 164, 165, 166, 167, 168, 169, 170, 171, 172, 173, 174, 175, 176, 177, 178, 179, 180, 181, 182, 183, 184, 185, 186, 187, 188, 189, 190] rfl (by decide +kernel)
set_option maxRecDepth 20000 in
theorem gX7_operand_X7_isWord : GoodIn wsX7_operand (wsV RX7 397 RX7 yX7_isWord wsX7_isWord) := goodIn_app (goodIn_of _ (by decide +kernel)) ggX7_operand_X7_isWord
set_option maxRecDepth 20000 in
theorem ggX7_operand_X7_blame : GoodIn wsX7_operand wsX7_blame := goodIn_r _ [31, 1, 32, 99, 100, 101, 102, 103, 104, 105, 106, 107, 108, 109, 110, 111, 112, 113, 114, 115, 116, 117, 118, 119, 120, 121, 122, 123, 124, 125, 126, 127, 128, 129, 130, 131, 132, 133, 134, 135, 136, 137, 138, 139, 140, 141, 142, 143, 144, 145, 146, 147, 148, 149, 150, 151, 152, 153, 154, 155, 156, 157, 158, 159, 160, 161, 162, 163, 164, 165, 166, 167, 168, 169, 170, 171, 172, 173, 174, 175, 176, 177, 178, 179, 180, 181, 182, 183, 184, 185, 186, 187, 188, 189, 190] rfl (by decide +kernel)
set_option maxRecDepth 20000 in
theorem gX7_operand_X7_blame : GoodIn wsX7_operand (wsV RX7 299 RX7 yX7_blame wsX7_blame) := goodIn_app (goodIn_of _ (by decide +kernel)) ggX7_operand_X7_blame
set_option maxRecDepth 20000 in
theorem ggX7_operand_X7_holdsBack : GoodIn wsX7_operand wsX7_holdsBack := goodIn_r _ [44, 45, 46, 99, 100, 101, 102, 103, 104, 105, 106, 107, 108, 109, 110, 111, 112, 113, 114, 115, 116, 117, 118, 119, 120, 121, 122, 123, 124, 125, 126, 127, 128, 129, 130, 131, 132, 133, 134, 135, 136, 137, 138, 139, 140, 141, 142, 143, 144, 145, 146, 147, 148, 149, 150, 151, 152, 153, 154, 155, 156, 157, 158, 159, 160, 161, 162, 163, 164, 165, 166, 167, 168, 169, 170, 171, 172, 173, 174, 175, 176, 177, 178, 179, 180, 181, 182, 183, 184, 185, 186, 187, 188, 189, 190] rfl (by decide +kernel)
set_option maxRecDepth 20000 in
theorem gX7_operand_X7_holdsBack : GoodIn wsX7_operand (wsV RX7 400 RX7 yX7_holdsBack wsX7_holdsBack) := goodIn_app (goodIn_of _ (by decide +kernel)) ggX7_operand_X7_holdsBack
set_option maxRecDepth 20000 in
theorem ggX7_operand_X7_ahead : GoodIn wsX7_operand wsX7_ahead := goodIn_r _ [50, 51, 52, 53, 7, 13, 27, 21, 40, 54, 55, 25, 56, 57, 58, 59, 60, 61, 62, 63, 64, 14, 20, 65, 66, 19, 67, 68, 69, 70, 71, 72, 73, 74, 75, 15, 16, 17, 18, 76, 77, 5, 8, 10, 11, 99, 100, 101, 102, 103, 104, 105, 106, 107, 108, 109, 110, 111, 112, 113, 114, 115, 116, 117, 118, 119, 120, 121, 122, 123, 124, 125, 126, 127, 128, 129, 130, 131, 132, 133, 134, 135, 136, 137, 138, 139, 140, 141, 142, 143, 144, 145, 146, 147, 148, 149, 150, 151, 152, 153, 154, 155, 156, 157, 158, 159, 160, 161, 162, 163, 164, 165, 166, 167, 168, 169, 170, 171, 172, 173, 174, 175, 176, 177, 178, 179, 180, 181, 182, 183, 184, 185, 186, 187, 188, 189, 190] rfl (by decide +kernel)
set_option maxRecDepth 20000 in
theorem gX7_operand_X7_ahead : GoodIn wsX7_operand (wsV RX7 320 RX7 yX7_ahead wsX7_ahead) := goodIn_app (goodIn_of _ (by decide +kernel)) ggX7_operand_X7_ahead
set_option maxRecDepth 20000 in
theorem ggX7_operand_X7_isSign : GoodIn wsX7_operand wsX7_isSign := goodIn_r _ [81, 13, 21, 99, 100, 101, 102, 103, 104, 105, 106, 107, 108, 109, 110, 111, 112, 113, 114, 115, 116, 117, 118, 119, 120, 121, 122, 123, 124, 125, 126, 127, 128, 129, 130, 131, 132, 133, 134, 135, 136, 137, 138, 139, 140, 141, 142, 143, 144, 145, 146, 147, 148, 149, 150, 151, 152, 153, 154, 155, 156, 157, 158, 159, 160, 161, 162, 163, 164, 165, 166, 167, 168, 169, 170, 171, 172, 173, 174, 175, 176, 177, 178, 179, 180, 181, 182, 183, 184, 185, 186, 187, 188, 189, 190] rfl (by decide +kernel)
set_option maxRecDepth 20000 in
theorem gX7_operand_X7_isSign : GoodIn wsX7_operand (wsV RX7 317 RX7 yX7_isSign wsX7_isSign) := goodIn_app (goodIn_of _ (by decide +kernel)) ggX7_operand_X7_isSign
set_option maxRecDepth 20000 in
theorem ggX7_operand_X7_opens : GoodIn wsX7_operand wsX7_opens := goodIn_r _ [85, 6, 7, 1, 28, 29, 30, 25, 31, 32, 47, 48, 49, 50, 51, 52, 53, 13, 27, 21, 40, 54, 55, 56, 57, 58, 59, 60, 61, 62, 63, 64, 14, 20, 65, 66, 19, 67, 68, 69, 70, 71, 72, 73, 74, 75, 15, 16, 17, 18, 76, 77, 5, 8, 10, 11, 86, 87, 88, 89, 3, 2, 9, 4, 90, 46, 99, 100, 101, 102, 103, 104, 105, 106, 107, 108, 109, 110, 111, 112, 113, 114, 115, 116, 117, 118, 119, 120, 121, 122, 123, 124, 125, 126, 127, 128, 129, 130, 131, 132, 133, 134, 135, 136, 137, 138, 139, 140, 141, 142, 143, 144, 145, 146, 147, 148, 149, 150, 151, 152, 153, 154, 155, 156, 157, 158, 159, 160, 161, 162, 163, 164, 165, 166, 167, 168, 169, 170, 171, 172, 173, 174, 175, 176, 177, 178, 179, 180, 181, 182, 183, 184, 185, 186, 187, 188, 189, 190] rfl (by decide +kernel)
set_option maxRecDepth 20000 in
theorem gX7_operand_X7_opens : GoodIn wsX7_operand (wsV RX7 403 RX7 yX7_opens wsX7_opens) := goodIn_app (goodIn_of _ (by decide +kernel)) ggX7_operand_X7_opens
set_option maxRecDepth 20000 in
theorem ggX7_operand_X7_add : GoodIn wsX7_operand wsX7_add := goodIn_r _ [94, 95, 96, 97, 98, 99, 100, 101, 102, 103, 104, 105, 106, 107, 108, 109, 110, 111, 112, 113, 114, 115, 116, 117, 118, 119, 120, 121, 122, 123, 124, 125, 126, 127, 128, 129, 130, 131, 132, 133, 134, 135, 136, 137, 138, 139, 140, 141, 142, 143, 144, 145, 146, 147, 148, 149, 150, 151, 152, 153, 154, 155, 156, 157, 158, 159, 160, 161, 162, 163, 164, 165, 166, 167, 168, 169, 170, 171, 172, 173, 174, 175, 176, 177, 178, 179, 180, 181, 182, 183, 184, 185, 186, 187, 188, 189, 190] rfl (by decide +kernel)
set_option maxRecDepth 20000 in
theorem gX7_operand_X7_add : GoodIn wsX7_operand (wsV RX7 388 RX7 yX7_add wsX7_add) := goodIn_app (goodIn_of _ (by decide +kernel)) ggX7_operand_X7_add
theorem dX7_operand_0 : decode cX7_operand 0 = .ok (.aload_n 0, 1) := by decide +kernel
theorem dX7_operand_1 : decode cX7_operand 1 = .ok (.invokevirtual 314, 3) := by decide +kernel
theorem dX7_operand_4 : decode cX7_operand 4 = .ok (.aload_n 0, 1) := by decide +kernel
theorem dX7_operand_5 : decode cX7_operand 5 = .ok (.getfield 36, 3) := by decide +kernel
theorem dX7_operand_8 : decode cX7_operand 8 = .ok (.ifCond .le 5, 3) := by decide +kernel
theorem dX7_operand_11 : decode cX7_operand 11 = .ok (.iconst 1, 1) := by decide +kernel
theorem dX7_operand_12 : decode cX7_operand 12 = .ok (.ireturn, 1) := by decide +kernel
theorem dX7_operand_13 : decode cX7_operand 13 = .ok (.aload_n 0, 1) := by decide +kernel
theorem dX7_operand_14 : decode cX7_operand 14 = .ok (.getfield 143, 3) := by decide +kernel
theorem dX7_operand_17 : decode cX7_operand 17 = .ok (.iconst 1, 1) := by decide +kernel
theorem dX7_operand_18 : decode cX7_operand 18 = .ok (.isub, 1) := by decide +kernel
theorem dX7_operand_19 : decode cX7_operand 19 = .ok (.istore_n 1, 1) := by decide +kernel
theorem dX7_operand_20 : decode cX7_operand 20 = .ok (.aload_n 0, 1) := by decide +kernel
theorem dX7_operand_21 : decode cX7_operand 21 = .ok (.getfield 127, 3) := by decide +kernel
theorem dX7_operand_24 : decode cX7_operand 24 = .ok (.iload_n 1, 1) := by decide +kernel
theorem dX7_operand_25 : decode cX7_operand 25 = .ok (.iaload, 1) := by decide +kernel
theorem dX7_operand_26 : decode cX7_operand 26 = .ok (.invokestatic 394, 3) := by decide +kernel
theorem dX7_operand_29 : decode cX7_operand 29 = .ok (.ifCond .eq 16, 3) := by decide +kernel
theorem dX7_operand_32 : decode cX7_operand 32 = .ok (.aload_n 0, 1) := by decide +kernel
theorem dX7_operand_33 : decode cX7_operand 33 = .ok (.getfield 133, 3) := by decide +kernel
theorem dX7_operand_36 : decode cX7_operand 36 = .ok (.iload_n 1, 1) := by decide +kernel
theorem dX7_operand_37 : decode cX7_operand 37 = .ok (.baload, 1) := by decide +kernel
theorem dX7_operand_38 : decode cX7_operand 38 = .ok (.ifCond .eq 7, 3) := by decide +kernel
theorem dX7_operand_41 : decode cX7_operand 41 = .ok (.iconst 1, 1) := by decide +kernel
theorem dX7_operand_42 : decode cX7_operand 42 = .ok (.goto 4, 3) := by decide +kernel
theorem dX7_operand_45 : decode cX7_operand 45 = .ok (.iconst 0, 1) := by decide +kernel
theorem dX7_operand_46 : decode cX7_operand 46 = .ok (.istore_n 2, 1) := by decide +kernel
theorem dX7_operand_47 : decode cX7_operand 47 = .ok (.iload_n 2, 1) := by decide +kernel
theorem dX7_operand_48 : decode cX7_operand 48 = .ok (.ifCond .eq 62, 3) := by decide +kernel
theorem dX7_operand_51 : decode cX7_operand 51 = .ok (.aload_n 0, 1) := by decide +kernel
theorem dX7_operand_52 : decode cX7_operand 52 = .ok (.ldc2_w 365, 3) := by decide +kernel
theorem dX7_operand_55 : decode cX7_operand 55 = .ok (.invokevirtual 397, 3) := by decide +kernel
theorem dX7_operand_58 : decode cX7_operand 58 = .ok (.ifCond .eq 52, 3) := by decide +kernel
theorem dX7_operand_61 : decode cX7_operand 61 = .ok (.aload_n 0, 1) := by decide +kernel
theorem dX7_operand_62 : decode cX7_operand 62 = .ok (.getfield 146, 3) := by decide +kernel
theorem dX7_operand_65 : decode cX7_operand 65 = .ok (.bipush 7, 2) := by decide +kernel
theorem dX7_operand_67 : decode cX7_operand 67 = .ok (.if_icmp .ne 12, 3) := by decide +kernel
theorem dX7_operand_70 : decode cX7_operand 70 = .ok (.aload_n 0, 1) := by decide +kernel
theorem dX7_operand_71 : decode cX7_operand 71 = .ok (.iconst 5, 1) := by decide +kernel
theorem dX7_operand_72 : decode cX7_operand 72 = .ok (.aload_n 0, 1) := by decide +kernel
theorem dX7_operand_73 : decode cX7_operand 73 = .ok (.getfield 23, 3) := by decide +kernel
theorem dX7_operand_76 : decode cX7_operand 76 = .ok (.invokevirtual 299, 3) := by decide +kernel
theorem dX7_operand_79 : decode cX7_operand 79 = .ok (.aload_n 0, 1) := by decide +kernel
theorem dX7_operand_80 : decode cX7_operand 80 = .ok (.getfield 36, 3) := by decide +kernel
theorem dX7_operand_83 : decode cX7_operand 83 = .ok (.ifCond .le 5, 3) := by decide +kernel
theorem dX7_operand_86 : decode cX7_operand 86 = .ok (.iconst 1, 1) := by decide +kernel
theorem dX7_operand_87 : decode cX7_operand 87 = .ok (.ireturn, 1) := by decide +kernel
theorem dX7_operand_88 : decode cX7_operand 88 = .ok (.aload_n 0, 1) := by decide +kernel
theorem dX7_operand_89 : decode cX7_operand 89 = .ok (.dup, 1) := by decide +kernel
theorem dX7_operand_90 : decode cX7_operand 90 = .ok (.getfield 146, 3) := by decide +kernel
theorem dX7_operand_93 : decode cX7_operand 93 = .ok (.iconst 1, 1) := by decide +kernel
theorem dX7_operand_94 : decode cX7_operand 94 = .ok (.iadd, 1) := by decide +kernel
theorem dX7_operand_95 : decode cX7_operand 95 = .ok (.putfield 146, 3) := by decide +kernel
theorem dX7_operand_98 : decode cX7_operand 98 = .ok (.aload_n 0, 1) := by decide +kernel
theorem dX7_operand_99 : decode cX7_operand 99 = .ok (.bipush 22, 2) := by decide +kernel
theorem dX7_operand_101 : decode cX7_operand 101 = .ok (.invokevirtual 400, 3) := by decide +kernel
theorem dX7_operand_104 : decode cX7_operand 104 = .ok (.aload_n 0, 1) := by decide +kernel
theorem dX7_operand_105 : decode cX7_operand 105 = .ok (.invokevirtual 320, 3) := by decide +kernel
theorem dX7_operand_108 : decode cX7_operand 108 = .ok (.iconst 0, 1) := by decide +kernel
theorem dX7_operand_109 : decode cX7_operand 109 = .ok (.ireturn, 1) := by decide +kernel
theorem dX7_operand_110 : decode cX7_operand 110 = .ok (.aload_n 0, 1) := by decide +kernel
theorem dX7_operand_111 : decode cX7_operand 111 = .ok (.getfield 133, 3) := by decide +kernel
theorem dX7_operand_114 : decode cX7_operand 114 = .ok (.iload_n 1, 1) := by decide +kernel
theorem dX7_operand_115 : decode cX7_operand 115 = .ok (.iconst 0, 1) := by decide +kernel
theorem dX7_operand_116 : decode cX7_operand 116 = .ok (.bastore, 1) := by decide +kernel
theorem dX7_operand_117 : decode cX7_operand 117 = .ok (.iload_n 2, 1) := by decide +kernel
theorem dX7_operand_118 : decode cX7_operand 118 = .ok (.ifCond .eq 19, 3) := by decide +kernel
theorem dX7_operand_121 : decode cX7_operand 121 = .ok (.aload_n 0, 1) := by decide +kernel
theorem dX7_operand_122 : decode cX7_operand 122 = .ok (.bipush 91, 2) := by decide +kernel
theorem dX7_operand_124 : decode cX7_operand 124 = .ok (.invokevirtual 317, 3) := by decide +kernel
theorem dX7_operand_127 : decode cX7_operand 127 = .ok (.ifCond .eq 10, 3) := by decide +kernel
theorem dX7_operand_130 : decode cX7_operand 130 = .ok (.aload_n 0, 1) := by decide +kernel
theorem dX7_operand_131 : decode cX7_operand 131 = .ok (.iconst 5, 1) := by decide +kernel
theorem dX7_operand_132 : decode cX7_operand 132 = .ok (.invokevirtual 403, 3) := by decide +kernel
theorem dX7_operand_135 : decode cX7_operand 135 = .ok (.iconst 0, 1) := by decide +kernel
theorem dX7_operand_136 : decode cX7_operand 136 = .ok (.ireturn, 1) := by decide +kernel
theorem dX7_operand_137 : decode cX7_operand 137 = .ok (.iload_n 2, 1) := by decide +kernel
theorem dX7_operand_138 : decode cX7_operand 138 = .ok (.ifCond .eq 33, 3) := by decide +kernel
theorem dX7_operand_141 : decode cX7_operand 141 = .ok (.aload_n 0, 1) := by decide +kernel
theorem dX7_operand_142 : decode cX7_operand 142 = .ok (.ldc2_w 367, 3) := by decide +kernel
theorem dX7_operand_145 : decode cX7_operand 145 = .ok (.invokevirtual 397, 3) := by decide +kernel
theorem dX7_operand_148 : decode cX7_operand 148 = .ok (.ifCond .eq 23, 3) := by decide +kernel
theorem dX7_operand_151 : decode cX7_operand 151 = .ok (.aload_n 0, 1) := by decide +kernel
theorem dX7_operand_152 : decode cX7_operand 152 = .ok (.bipush 9, 2) := by decide +kernel
theorem dX7_operand_154 : decode cX7_operand 154 = .ok (.iconst 0, 1) := by decide +kernel
theorem dX7_operand_155 : decode cX7_operand 155 = .ok (.invokevirtual 388, 3) := by decide +kernel
theorem dX7_operand_158 : decode cX7_operand 158 = .ok (.aload_n 0, 1) := by decide +kernel
theorem dX7_operand_159 : decode cX7_operand 159 = .ok (.getfield 130, 3) := by decide +kernel
theorem dX7_operand_162 : decode cX7_operand 162 = .ok (.iload_n 1, 1) := by decide +kernel
theorem dX7_operand_163 : decode cX7_operand 163 = .ok (.iconst 2, 1) := by decide +kernel
theorem dX7_operand_164 : decode cX7_operand 164 = .ok (.iastore, 1) := by decide +kernel
theorem dX7_operand_165 : decode cX7_operand 165 = .ok (.aload_n 0, 1) := by decide +kernel
theorem dX7_operand_166 : decode cX7_operand 166 = .ok (.invokevirtual 320, 3) := by decide +kernel
theorem dX7_operand_169 : decode cX7_operand 169 = .ok (.iconst 1, 1) := by decide +kernel
theorem dX7_operand_170 : decode cX7_operand 170 = .ok (.ireturn, 1) := by decide +kernel
theorem dX7_operand_171 : decode cX7_operand 171 = .ok (.aload_n 0, 1) := by decide +kernel
theorem dX7_operand_172 : decode cX7_operand 172 = .ok (.bipush 40, 2) := by decide +kernel
theorem dX7_operand_174 : decode cX7_operand 174 = .ok (.invokevirtual 317, 3) := by decide +kernel
theorem dX7_operand_177 : decode cX7_operand 177 = .ok (.ifCond .eq 10, 3) := by decide +kernel
theorem dX7_operand_180 : decode cX7_operand 180 = .ok (.aload_n 0, 1) := by decide +kernel
theorem dX7_operand_181 : decode cX7_operand 181 = .ok (.iconst 2, 1) := by decide +kernel
theorem dX7_operand_182 : decode cX7_operand 182 = .ok (.invokevirtual 403, 3) := by decide +kernel
theorem dX7_operand_185 : decode cX7_operand 185 = .ok (.iconst 0, 1) := by decide +kernel
theorem dX7_operand_186 : decode cX7_operand 186 = .ok (.ireturn, 1) := by decide +kernel
theorem dX7_operand_187 : decode cX7_operand 187 = .ok (.aload_n 0, 1) := by decide +kernel
theorem dX7_operand_188 : decode cX7_operand 188 = .ok (.ldc2_w 369, 3) := by decide +kernel
theorem dX7_operand_191 : decode cX7_operand 191 = .ok (.invokevirtual 397, 3) := by decide +kernel
theorem dX7_operand_194 : decode cX7_operand 194 = .ok (.ifCond .ne 13, 3) := by decide +kernel
theorem dX7_operand_197 : decode cX7_operand 197 = .ok (.aload_n 0, 1) := by decide +kernel
theorem dX7_operand_198 : decode cX7_operand 198 = .ok (.ldc2_w 371, 3) := by decide +kernel
theorem dX7_operand_201 : decode cX7_operand 201 = .ok (.invokevirtual 397, 3) := by decide +kernel
theorem dX7_operand_204 : decode cX7_operand 204 = .ok (.ifCond .eq 73, 3) := by decide +kernel
theorem dX7_operand_207 : decode cX7_operand 207 = .ok (.aload_n 0, 1) := by decide +kernel
theorem dX7_operand_208 : decode cX7_operand 208 = .ok (.ldc2_w 369, 3) := by decide +kernel
theorem dX7_operand_211 : decode cX7_operand 211 = .ok (.invokevirtual 397, 3) := by decide +kernel
theorem dX7_operand_214 : decode cX7_operand 214 = .ok (.ifCond .eq 8, 3) := by decide +kernel
theorem dX7_operand_217 : decode cX7_operand 217 = .ok (.bipush 15, 2) := by decide +kernel
theorem dX7_operand_219 : decode cX7_operand 219 = .ok (.goto 5, 3) := by decide +kernel
theorem dX7_operand_222 : decode cX7_operand 222 = .ok (.bipush 16, 2) := by decide +kernel
theorem dX7_operand_224 : decode cX7_operand 224 = .ok (.istore_n 3, 1) := by decide +kernel
theorem dX7_operand_225 : decode cX7_operand 225 = .ok (.aload_n 0, 1) := by decide +kernel
theorem dX7_operand_226 : decode cX7_operand 226 = .ok (.invokevirtual 320, 3) := by decide +kernel
theorem dX7_operand_229 : decode cX7_operand 229 = .ok (.aload_n 0, 1) := by decide +kernel
theorem dX7_operand_230 : decode cX7_operand 230 = .ok (.invokevirtual 314, 3) := by decide +kernel
theorem dX7_operand_233 : decode cX7_operand 233 = .ok (.aload_n 0, 1) := by decide +kernel
theorem dX7_operand_234 : decode cX7_operand 234 = .ok (.bipush 40, 2) := by decide +kernel
theorem dX7_operand_236 : decode cX7_operand 236 = .ok (.invokevirtual 317, 3) := by decide +kernel
theorem dX7_operand_239 : decode cX7_operand 239 = .ok (.ifCond .ne 12, 3) := by decide +kernel
theorem dX7_operand_242 : decode cX7_operand 242 = .ok (.aload_n 0, 1) := by decide +kernel
theorem dX7_operand_243 : decode cX7_operand 243 = .ok (.iconst 1, 1) := by decide +kernel
theorem dX7_operand_244 : decode cX7_operand 244 = .ok (.aload_n 0, 1) := by decide +kernel
theorem dX7_operand_245 : decode cX7_operand 245 = .ok (.getfield 23, 3) := by decide +kernel
theorem dX7_operand_248 : decode cX7_operand 248 = .ok (.invokevirtual 299, 3) := by decide +kernel
theorem dX7_operand_251 : decode cX7_operand 251 = .ok (.aload_n 0, 1) := by decide +kernel
theorem dX7_operand_252 : decode cX7_operand 252 = .ok (.iconst 3, 1) := by decide +kernel
theorem dX7_operand_253 : decode cX7_operand 253 = .ok (.invokevirtual 403, 3) := by decide +kernel
theorem dX7_operand_256 : decode cX7_operand 256 = .ok (.aload_n 0, 1) := by decide +kernel
theorem dX7_operand_257 : decode cX7_operand 257 = .ok (.getfield 36, 3) := by decide +kernel
theorem dX7_operand_260 : decode cX7_operand 260 = .ok (.ifCond .ne 15, 3) := by decide +kernel
theorem dX7_operand_263 : decode cX7_operand 263 = .ok (.aload_n 0, 1) := by decide +kernel
theorem dX7_operand_264 : decode cX7_operand 264 = .ok (.getfield 137, 3) := by decide +kernel
theorem dX7_operand_267 : decode cX7_operand 267 = .ok (.aload_n 0, 1) := by decide +kernel
theorem dX7_operand_268 : decode cX7_operand 268 = .ok (.getfield 143, 3) := by decide +kernel
theorem dX7_operand_271 : decode cX7_operand 271 = .ok (.iconst 1, 1) := by decide +kernel
theorem dX7_operand_272 : decode cX7_operand 272 = .ok (.isub, 1) := by decide +kernel
theorem dX7_operand_273 : decode cX7_operand 273 = .ok (.iload_n 3, 1) := by decide +kernel
theorem dX7_operand_274 : decode cX7_operand 274 = .ok (.iastore, 1) := by decide +kernel
theorem dX7_operand_275 : decode cX7_operand 275 = .ok (.iconst 0, 1) := by decide +kernel
theorem dX7_operand_276 : decode cX7_operand 276 = .ok (.ireturn, 1) := by decide +kernel
theorem dX7_operand_277 : decode cX7_operand 277 = .ok (.aload_n 0, 1) := by decide +kernel
theorem dX7_operand_278 : decode cX7_operand 278 = .ok (.getfield 20, 3) := by decide +kernel
theorem dX7_operand_281 : decode cX7_operand 281 = .ok (.iconst 2, 1) := by decide +kernel
theorem dX7_operand_282 : decode cX7_operand 282 = .ok (.if_icmp .ne 7, 3) := by decide +kernel
theorem dX7_operand_285 : decode cX7_operand 285 = .ok (.iconst 0, 1) := by decide +kernel
theorem dX7_operand_286 : decode cX7_operand 286 = .ok (.goto 104, 3) := by decide +kernel
theorem dX7_operand_289 : decode cX7_operand 289 = .ok (.aload_n 0, 1) := by decide +kernel
theorem dX7_operand_290 : decode cX7_operand 290 = .ok (.ldc2_w 325, 3) := by decide +kernel
theorem dX7_operand_293 : decode cX7_operand 293 = .ok (.invokevirtual 397, 3) := by decide +kernel
theorem dX7_operand_296 : decode cX7_operand 296 = .ok (.ifCond .eq 7, 3) := by decide +kernel
theorem dX7_operand_299 : decode cX7_operand 299 = .ok (.iconst 1, 1) := by decide +kernel
theorem dX7_operand_300 : decode cX7_operand 300 = .ok (.goto 90, 3) := by decide +kernel
theorem dX7_operand_303 : decode cX7_operand 303 = .ok (.aload_n 0, 1) := by decide +kernel
theorem dX7_operand_304 : decode cX7_operand 304 = .ok (.ldc2_w 353, 3) := by decide +kernel
theorem dX7_operand_307 : decode cX7_operand 307 = .ok (.invokevirtual 397, 3) := by decide +kernel
theorem dX7_operand_310 : decode cX7_operand 310 = .ok (.ifCond .eq 7, 3) := by decide +kernel
theorem dX7_operand_313 : decode cX7_operand 313 = .ok (.iconst 2, 1) := by decide +kernel
theorem dX7_operand_314 : decode cX7_operand 314 = .ok (.goto 76, 3) := by decide +kernel
theorem dX7_operand_317 : decode cX7_operand 317 = .ok (.aload_n 0, 1) := by decide +kernel
theorem dX7_operand_318 : decode cX7_operand 318 = .ok (.ldc2_w 355, 3) := by decide +kernel
theorem dX7_operand_321 : decode cX7_operand 321 = .ok (.invokevirtual 397, 3) := by decide +kernel
theorem dX7_operand_324 : decode cX7_operand 324 = .ok (.ifCond .eq 7, 3) := by decide +kernel
theorem dX7_operand_327 : decode cX7_operand 327 = .ok (.iconst 3, 1) := by decide +kernel
theorem dX7_operand_328 : decode cX7_operand 328 = .ok (.goto 62, 3) := by decide +kernel
theorem dX7_operand_331 : decode cX7_operand 331 = .ok (.aload_n 0, 1) := by decide +kernel
theorem dX7_operand_332 : decode cX7_operand 332 = .ok (.ldc2_w 357, 3) := by decide +kernel
theorem dX7_operand_335 : decode cX7_operand 335 = .ok (.invokevirtual 397, 3) := by decide +kernel
theorem dX7_operand_338 : decode cX7_operand 338 = .ok (.ifCond .eq 7, 3) := by decide +kernel
theorem dX7_operand_341 : decode cX7_operand 341 = .ok (.iconst 4, 1) := by decide +kernel
theorem dX7_operand_342 : decode cX7_operand 342 = .ok (.goto 48, 3) := by decide +kernel
theorem dX7_operand_345 : decode cX7_operand 345 = .ok (.aload_n 0, 1) := by decide +kernel
theorem dX7_operand_346 : decode cX7_operand 346 = .ok (.ldc2_w 359, 3) := by decide +kernel
theorem dX7_operand_349 : decode cX7_operand 349 = .ok (.invokevirtual 397, 3) := by decide +kernel
theorem dX7_operand_352 : decode cX7_operand 352 = .ok (.ifCond .eq 7, 3) := by decide +kernel
theorem dX7_operand_355 : decode cX7_operand 355 = .ok (.iconst 5, 1) := by decide +kernel
theorem dX7_operand_356 : decode cX7_operand 356 = .ok (.goto 34, 3) := by decide +kernel
theorem dX7_operand_359 : decode cX7_operand 359 = .ok (.aload_n 0, 1) := by decide +kernel
theorem dX7_operand_360 : decode cX7_operand 360 = .ok (.ldc2_w 333, 3) := by decide +kernel
theorem dX7_operand_363 : decode cX7_operand 363 = .ok (.invokevirtual 397, 3) := by decide +kernel
theorem dX7_operand_366 : decode cX7_operand 366 = .ok (.ifCond .eq 8, 3) := by decide +kernel
theorem dX7_operand_369 : decode cX7_operand 369 = .ok (.bipush 6, 2) := by decide +kernel
theorem dX7_operand_371 : decode cX7_operand 371 = .ok (.goto 19, 3) := by decide +kernel
theorem dX7_operand_374 : decode cX7_operand 374 = .ok (.aload_n 0, 1) := by decide +kernel
theorem dX7_operand_375 : decode cX7_operand 375 = .ok (.ldc2_w 327, 3) := by decide +kernel
theorem dX7_operand_378 : decode cX7_operand 378 = .ok (.invokevirtual 397, 3) := by decide +kernel
theorem dX7_operand_381 : decode cX7_operand 381 = .ok (.ifCond .eq 8, 3) := by decide +kernel
theorem dX7_operand_384 : decode cX7_operand 384 = .ok (.bipush 7, 2) := by decide +kernel
theorem dX7_operand_386 : decode cX7_operand 386 = .ok (.goto 4, 3) := by decide +kernel
theorem dX7_operand_389 : decode cX7_operand 389 = .ok (.iconst (-1), 1) := by decide +kernel
theorem dX7_operand_390 : decode cX7_operand 390 = .ok (.istore_n 3, 1) := by decide +kernel
theorem dX7_operand_391 : decode cX7_operand 391 = .ok (.iload_n 3, 1) := by decide +kernel
theorem dX7_operand_392 : decode cX7_operand 392 = .ok (.iconst (-1), 1) := by decide +kernel
theorem dX7_operand_393 : decode cX7_operand 393 = .ok (.if_icmp .ne 12, 3) := by decide +kernel
theorem dX7_operand_396 : decode cX7_operand 396 = .ok (.aload_n 0, 1) := by decide +kernel
theorem dX7_operand_397 : decode cX7_operand 397 = .ok (.iconst 1, 1) := by decide +kernel
theorem dX7_operand_398 : decode cX7_operand 398 = .ok (.aload_n 0, 1) := by decide +kernel
theorem dX7_operand_399 : decode cX7_operand 399 = .ok (.getfield 23, 3) := by decide +kernel
theorem dX7_operand_402 : decode cX7_operand 402 = .ok (.invokevirtual 299, 3) := by decide +kernel
theorem dX7_operand_405 : decode cX7_operand 405 = .ok (.aload_n 0, 1) := by decide +kernel
theorem dX7_operand_406 : decode cX7_operand 406 = .ok (.getfield 36, 3) := by decide +kernel
theorem dX7_operand_409 : decode cX7_operand 409 = .ok (.ifCond .le 5, 3) := by decide +kernel
theorem dX7_operand_412 : decode cX7_operand 412 = .ok (.iconst 1, 1) := by decide +kernel
theorem dX7_operand_413 : decode cX7_operand 413 = .ok (.ireturn, 1) := by decide +kernel
theorem dX7_operand_414 : decode cX7_operand 414 = .ok (.aload_n 0, 1) := by decide +kernel
theorem dX7_operand_415 : decode cX7_operand 415 = .ok (.iload_n 3, 1) := by decide +kernel
theorem dX7_operand_416 : decode cX7_operand 416 = .ok (.aload_n 0, 1) := by decide +kernel
theorem dX7_operand_417 : decode cX7_operand 417 = .ok (.getfield 29, 3) := by decide +kernel
theorem dX7_operand_420 : decode cX7_operand 420 = .ok (.invokevirtual 388, 3) := by decide +kernel
theorem dX7_operand_423 : decode cX7_operand 423 = .ok (.aload_n 0, 1) := by decide +kernel
theorem dX7_operand_424 : decode cX7_operand 424 = .ok (.invokevirtual 320, 3) := by decide +kernel
theorem dX7_operand_427 : decode cX7_operand 427 = .ok (.iconst 1, 1) := by decide +kernel
theorem dX7_operand_428 : decode cX7_operand 428 = .ok (.ireturn, 1) := by decide +kernel
set_option maxRecDepth 20000 in
theorem ggX7_goesOn_X7_lex : GoodIn wsX7_goesOn wsX7_lex := goodIn_r _ [16, 17, 18, 19, 20, 15, 21, 1, 22, 99, 100, 101, 102, 103, 104, 105, 106, 107, 108, 109, 110, 111, 112, 113, 114, 115, 116, 117, 118, 119, 120, 121, 122, 123, 124, 125, 126, 127, 128, 129, 130, 131, 132, 133, 134, 135, 136, 137, 138, 139, 140, 141, 142, 143, 144, 145, 146, 147, 148, 149, 150, 151, 152, 153, 154, 155, 156, 157, 158, 159, 160, 161, 162, 163, 164, 165, 166, 167, 168, 169, 170, 171, 172, 173, 174, 175, 176, 177, 178, 179, 180, 181, 182, 183, 184, 185, 186, 187, 188, 189, 190] rfl (by decide +kernel)
set_option maxRecDepth 20000 in
theorem gX7_goesOn_X7_lex : GoodIn wsX7_goesOn (wsV RX7 314 RX7 yX7_lex wsX7_lex) := goodIn_app (goodIn_of _ (by decide +kernel)) ggX7_goesOn_X7_lex
set_option maxRecDepth 20000 in
theorem ggX7_goesOn_X7_isTest : GoodIn wsX7_goesOn wsX7_isTest := goodIn_r _ [25] rfl (by decide +kernel)
set_option maxRecDepth 20000 in
theorem gX7_goesOn_X7_isTest : GoodIn wsX7_goesOn (va_wsS RX7 394 yX7_isTest wsX7_isTest) := goodIn_app (goodIn_of _ (by decide +kernel)) ggX7_goesOn_X7_isTest
set_option maxRecDepth 20000 in
theorem ggX7_goesOn_X7_isSign : GoodIn wsX7_goesOn wsX7_isSign := goodIn_r _ [29, 30, 31, 99, 100, 101, 102, 103, 104, 105, 106, 107, 108, 109, 110, 111, 112, 113, 114, 115, 116, 117, 118, 119, 120, 121, 122, 123, 124, 125, 126, 127, 128, 129, 130, 131, 132, 133, 134, 135, 136, 137, 138, 139, 140, 141, 142, 143, 144, 145, 146, 147, 148, 149, 150, 151, 152, 153, 154, 155, 156, 157, 158, 159, 160, 161, 162, 163, 164, 165, 166, 167, 168, 169, 170, 171, 172, 173, 174, 175, 176, 177, 178, 179, 180, 181, 182, 183, 184, 185, 186, 187, 188, 189, 190] rfl (by decide +kernel)
set_option maxRecDepth 20000 in
theorem gX7_goesOn_X7_isSign : GoodIn wsX7_goesOn (wsV RX7 317 RX7 yX7_isSign wsX7_isSign) := goodIn_app (goodIn_of _ (by decide +kernel)) ggX7_goesOn_X7_isSign
set_option maxRecDepth 20000 in
theorem ggX7_goesOn_X7_joins : GoodIn wsX7_goesOn wsX7_joins := goodIn_r _ [35, 36, 37, 2, 38, 10, 39, 40, 15, 41, 42, 43, 44, 45, 46, 47, 48, 49, 99, 100, 101, 102, 103, 104, 105, 106, 107, 108, 109, 110, 111, 112, 113, 114, 115, 116, 117, 118, 119, 120, 121, 122, 123, 124, 125, 126, 127, 128, 129, 130, 131, 132, 133, 134, 135, 136, 137, 138, 139, 140, 141, 142, 143, 144, 145, 146, 147, 148, 149, 150, 151, 152, 153, 154, 155, 156, 157, 158, 159, 160, 161, 162, 163, 164, 165, 166, 167, 168, 169, 170, 171, 172, 173, 174, 175, 176, 177, 178, 179, 180, 181, 182, 183, 184, 185, 186, 187, 188, 189, 190] rfl (by decide +kernel)
set_option maxRecDepth 20000 in
theorem gX7_goesOn_X7_joins : GoodIn wsX7_goesOn (wsV RX7 406 RX7 yX7_joins wsX7_joins) := goodIn_app (goodIn_of _ (by decide +kernel)) ggX7_goesOn_X7_joins
set_option maxRecDepth 20000 in
theorem ggX7_goesOn_X7_holdsBack : GoodIn wsX7_goesOn wsX7_holdsBack := goodIn_r _ [53, 38, 36, 99, 100, 101, 102, 103, 104, 105, 106, 107, 108, 109, 110, 111, 112, 113, 114, 115, 116, 117, 118, 119, 120, 121, 122, 123, 124, 125, 126, 127, 128, 129, 130, 131, 132, 133, 134, 135, 136, 137, 138, 139, 140, 141, 142, 143, 144, 145, 146, 147, 148, 149, 150, 151, 152, 153, 154, 155, 156, 157, 158, 159, 160, 161, 162, 163, 164, 165, 166, 167, 168, 169, 170, 171, 172, 173, 174, 175, 176, 177, 178, 179, 180, 181, 182, 183, 184, 185, 186, 187, 188, 189, 190] rfl (by decide +kernel)
set_option maxRecDepth 20000 in
theorem gX7_goesOn_X7_holdsBack : GoodIn wsX7_goesOn (wsV RX7 400 RX7 yX7_holdsBack wsX7_holdsBack) := goodIn_app (goodIn_of _ (by decide +kernel)) ggX7_goesOn_X7_holdsBack
set_option maxRecDepth 20000 in
theorem ggX7_goesOn_X7_ahead : GoodIn wsX7_goesOn wsX7_ahead := goodIn_r _ [57, 58, 59, 60, 8, 30, 17, 31, 61, 62, 63, 15, 64, 65, 66, 67, 68, 69, 70, 71, 72, 73, 74, 75, 76, 77, 78, 79, 80, 81, 82, 83, 84, 85, 86, 87, 88, 89, 90, 7, 6, 91, 92, 93, 94, 99, 100, 101, 102, 103, 104, 105, 106, 107, 108, 109, 110, 111, 112, 113, 114, 115, 116, 117, 118, 119, 120, 121, 122, 123, 124, 125, 126, 127, 128, 129, 130, 131, 132, 133, 134, 135, 136, 137, 138, 139, 140, 141, 142, 143, 144, 145, 146, 147, 148, 149, 150, 151, 152, 153, 154, 155, 156, 157, 158, 159, 160, 161, 162, 163, 164, 165, 166, 167, 168, 169, 170, 171, 172, 173, 174, 175, 176, 177, 178, 179, 180, 181, 182, 183, 184, 185, 186, 187, 188, 189, 190] rfl (by decide +kernel)
set_option maxRecDepth 20000 in
theorem gX7_goesOn_X7_ahead : GoodIn wsX7_goesOn (wsV RX7 320 RX7 yX7_ahead wsX7_ahead) := goodIn_app (goodIn_of _ (by decide +kernel)) ggX7_goesOn_X7_ahead
set_option maxRecDepth 20000 in
theorem ggX7_goesOn_X7_isWord : GoodIn wsX7_goesOn wsX7_isWord := goodIn_r _ [98, 30, 61, 99, 100, 101, 102, 103, 104, 105, 106, 107, 108, 109, 110, 111, 112, 113, 114, 115, 116, 117, 118, 119, 120, 121, 122, 123, 124, 125, 126, 127, 128, 129, 130, 131, 132, 133, 134, 135, 136, 137, 138, 139, 140, 141, 142, 143, 144, 145, 146, 147, 148, 149, 150, 151, 152, 153, 154, 155, 156, 157, 158, 159, 160, 161, 162, 163, 164, 165, 166, 167, 168, 169, 170, 171, 172, 173, 174, 175, 176, 177, 178, 179, 180, 181, 182, 183, 184, 185, 186, 187, 188, 189, 190] rfl (by decide +kernel)
set_option maxRecDepth 20000 in
theorem gX7_goesOn_X7_isWord : GoodIn wsX7_goesOn (wsV RX7 397 RX7 yX7_isWord wsX7_isWord) := goodIn_app (goodIn_of _ (by decide +kernel)) ggX7_goesOn_X7_isWord
set_option maxRecDepth 20000 in
theorem ggX7_goesOn_X7_blame : GoodIn wsX7_goesOn wsX7_blame := goodIn_r _ [21, 1, 22, 99, 100, 101, 102, 103, 104, 105, 106, 107, 108, 109, 110, 111, 112, 113, 114, 115, 116, 117, 118, 119, 120, 121, 122, 123, 124, 125, 126, 127, 128, 129, 130, 131, 132, 133, 134, 135, 136, 137, 138, 139, 140, 141, 142, 143, 144, 145, 146, 147, 148, 149, 150, 151, 152, 153, 154, 155, 156, 157, 158, 159, 160, 161, 162, 163, 164, 165, 166, 167, 168, 169, 170, 171, 172, 173, 174, 175, 176, 177, 178, 179, 180, 181, 182, 183, 184, 185, 186, 187, 188, 189, 190] rfl (by decide +kernel)
set_option maxRecDepth 20000 in
theorem gX7_goesOn_X7_blame : GoodIn wsX7_goesOn (wsV RX7 299 RX7 yX7_blame wsX7_blame) := goodIn_app (goodIn_of _ (by decide +kernel)) ggX7_goesOn_X7_blame
set_option maxRecDepth 20000 in
theorem ggX7_goesOn_X7_add : GoodIn wsX7_goesOn wsX7_add := goodIn_r _ [45, 46, 47, 48, 49, 99, 100, 101, 102, 103, 104, 105, 106, 107, 108, 109, 110, 111, 112, 113, 114, 115, 116, 117, 118, 119, 120, 121, 122, 123, 124, 125, 126, 127, 128, 129, 130, 131, 132, 133, 134, 135, 136, 137, 138, 139, 140, 141, 142, 143, 144, 145, 146, 147, 148, 149, 150, 151, 152, 153, 154, 155, 156, 157, 158, 159, 160, 161, 162, 163, 164, 165, 166, 167, 168, 169, 170, 171, 172, 173, 174, 175, 176, 177, 178, 179, 180, 181, 182, 183, 184, 185, 186, 187, 188, 189, 190] rfl (by decide +kernel)
set_option maxRecDepth 20000 in
theorem gX7_goesOn_X7_add : GoodIn wsX7_goesOn (wsV RX7 388 RX7 yX7_add wsX7_add) := goodIn_app (goodIn_of _ (by decide +kernel)) ggX7_goesOn_X7_add
theorem dX7_goesOn_0 : decode cX7_goesOn 0 = .ok (.aload_n 0, 1) := by decide +kernel
theorem dX7_goesOn_1 : decode cX7_goesOn 1 = .ok (.invokevirtual 314, 3) := by decide +kernel
theorem dX7_goesOn_4 : decode cX7_goesOn 4 = .ok (.aload_n 0, 1) := by decide +kernel
theorem dX7_goesOn_5 : decode cX7_goesOn 5 = .ok (.getfield 36, 3) := by decide +kernel
theorem dX7_goesOn_8 : decode cX7_goesOn 8 = .ok (.ifCond .le 5, 3) := by decide +kernel
theorem dX7_goesOn_11 : decode cX7_goesOn 11 = .ok (.iconst 0, 1) := by decide +kernel
theorem dX7_goesOn_12 : decode cX7_goesOn 12 = .ok (.ireturn, 1) := by decide +kernel
theorem dX7_goesOn_13 : decode cX7_goesOn 13 = .ok (.aload_n 0, 1) := by decide +kernel
theorem dX7_goesOn_14 : decode cX7_goesOn 14 = .ok (.getfield 143, 3) := by decide +kernel
theorem dX7_goesOn_17 : decode cX7_goesOn 17 = .ok (.iconst 1, 1) := by decide +kernel
theorem dX7_goesOn_18 : decode cX7_goesOn 18 = .ok (.isub, 1) := by decide +kernel
theorem dX7_goesOn_19 : decode cX7_goesOn 19 = .ok (.istore_n 1, 1) := by decide +kernel
theorem dX7_goesOn_20 : decode cX7_goesOn 20 = .ok (.aload_n 0, 1) := by decide +kernel
theorem dX7_goesOn_21 : decode cX7_goesOn 21 = .ok (.getfield 127, 3) := by decide +kernel
theorem dX7_goesOn_24 : decode cX7_goesOn 24 = .ok (.iload_n 1, 1) := by decide +kernel
theorem dX7_goesOn_25 : decode cX7_goesOn 25 = .ok (.iaload, 1) := by decide +kernel
theorem dX7_goesOn_26 : decode cX7_goesOn 26 = .ok (.istore_n 2, 1) := by decide +kernel
theorem dX7_goesOn_27 : decode cX7_goesOn 27 = .ok (.iload_n 2, 1) := by decide +kernel
theorem dX7_goesOn_28 : decode cX7_goesOn 28 = .ok (.invokestatic 394, 3) := by decide +kernel
theorem dX7_goesOn_31 : decode cX7_goesOn 31 = .ok (.istore_n 3, 1) := by decide +kernel
theorem dX7_goesOn_32 : decode cX7_goesOn 32 = .ok (.aload_n 0, 1) := by decide +kernel
theorem dX7_goesOn_33 : decode cX7_goesOn 33 = .ok (.getfield 130, 3) := by decide +kernel
theorem dX7_goesOn_36 : decode cX7_goesOn 36 = .ok (.iload_n 1, 1) := by decide +kernel
theorem dX7_goesOn_37 : decode cX7_goesOn 37 = .ok (.iaload, 1) := by decide +kernel
theorem dX7_goesOn_38 : decode cX7_goesOn 38 = .ok (.iconst 2, 1) := by decide +kernel
theorem dX7_goesOn_39 : decode cX7_goesOn 39 = .ok (.if_icmp .ge 149, 3) := by decide +kernel
theorem dX7_goesOn_42 : decode cX7_goesOn 42 = .ok (.aload_n 0, 1) := by decide +kernel
theorem dX7_goesOn_43 : decode cX7_goesOn 43 = .ok (.bipush 43, 2) := by decide +kernel
theorem dX7_goesOn_45 : decode cX7_goesOn 45 = .ok (.invokevirtual 317, 3) := by decide +kernel
theorem dX7_goesOn_48 : decode cX7_goesOn 48 = .ok (.ifCond .ne 39, 3) := by decide +kernel
theorem dX7_goesOn_51 : decode cX7_goesOn 51 = .ok (.aload_n 0, 1) := by decide +kernel
theorem dX7_goesOn_52 : decode cX7_goesOn 52 = .ok (.bipush 45, 2) := by decide +kernel
theorem dX7_goesOn_54 : decode cX7_goesOn 54 = .ok (.invokevirtual 317, 3) := by decide +kernel
theorem dX7_goesOn_57 : decode cX7_goesOn 57 = .ok (.ifCond .ne 30, 3) := by decide +kernel
theorem dX7_goesOn_60 : decode cX7_goesOn 60 = .ok (.aload_n 0, 1) := by decide +kernel
theorem dX7_goesOn_61 : decode cX7_goesOn 61 = .ok (.bipush 42, 2) := by decide +kernel
theorem dX7_goesOn_63 : decode cX7_goesOn 63 = .ok (.invokevirtual 317, 3) := by decide +kernel
theorem dX7_goesOn_66 : decode cX7_goesOn 66 = .ok (.ifCond .ne 21, 3) := by decide +kernel
theorem dX7_goesOn_69 : decode cX7_goesOn 69 = .ok (.aload_n 0, 1) := by decide +kernel
theorem dX7_goesOn_70 : decode cX7_goesOn 70 = .ok (.bipush 47, 2) := by decide +kernel
theorem dX7_goesOn_72 : decode cX7_goesOn 72 = .ok (.invokevirtual 317, 3) := by decide +kernel
theorem dX7_goesOn_75 : decode cX7_goesOn 75 = .ok (.ifCond .ne 12, 3) := by decide +kernel
theorem dX7_goesOn_78 : decode cX7_goesOn 78 = .ok (.aload_n 0, 1) := by decide +kernel
theorem dX7_goesOn_79 : decode cX7_goesOn 79 = .ok (.bipush 37, 2) := by decide +kernel
theorem dX7_goesOn_81 : decode cX7_goesOn 81 = .ok (.invokevirtual 317, 3) := by decide +kernel
theorem dX7_goesOn_84 : decode cX7_goesOn 84 = .ok (.ifCond .eq 104, 3) := by decide +kernel
theorem dX7_goesOn_87 : decode cX7_goesOn 87 = .ok (.aload_n 0, 1) := by decide +kernel
theorem dX7_goesOn_88 : decode cX7_goesOn 88 = .ok (.aload_n 0, 1) := by decide +kernel
theorem dX7_goesOn_89 : decode cX7_goesOn 89 = .ok (.bipush 43, 2) := by decide +kernel
theorem dX7_goesOn_91 : decode cX7_goesOn 91 = .ok (.invokevirtual 317, 3) := by decide +kernel
theorem dX7_goesOn_94 : decode cX7_goesOn 94 = .ok (.ifCond .ne 12, 3) := by decide +kernel
theorem dX7_goesOn_97 : decode cX7_goesOn 97 = .ok (.aload_n 0, 1) := by decide +kernel
theorem dX7_goesOn_98 : decode cX7_goesOn 98 = .ok (.bipush 45, 2) := by decide +kernel
theorem dX7_goesOn_100 : decode cX7_goesOn 100 = .ok (.invokevirtual 317, 3) := by decide +kernel
theorem dX7_goesOn_103 : decode cX7_goesOn 103 = .ok (.ifCond .eq 7, 3) := by decide +kernel
theorem dX7_goesOn_106 : decode cX7_goesOn 106 = .ok (.iconst 5, 1) := by decide +kernel
theorem dX7_goesOn_107 : decode cX7_goesOn 107 = .ok (.goto 5, 3) := by decide +kernel
theorem dX7_goesOn_110 : decode cX7_goesOn 110 = .ok (.bipush 6, 2) := by decide +kernel
theorem dX7_goesOn_112 : decode cX7_goesOn 112 = .ok (.invokevirtual 406, 3) := by decide +kernel
theorem dX7_goesOn_115 : decode cX7_goesOn 115 = .ok (.aload_n 0, 1) := by decide +kernel
theorem dX7_goesOn_116 : decode cX7_goesOn 116 = .ok (.aload_n 0, 1) := by decide +kernel
theorem dX7_goesOn_117 : decode cX7_goesOn 117 = .ok (.bipush 43, 2) := by decide +kernel
theorem dX7_goesOn_119 : decode cX7_goesOn 119 = .ok (.invokevirtual 317, 3) := by decide +kernel
theorem dX7_goesOn_122 : decode cX7_goesOn 122 = .ok (.ifCond .eq 8, 3) := by decide +kernel
theorem dX7_goesOn_125 : decode cX7_goesOn 125 = .ok (.bipush 10, 2) := by decide +kernel
theorem dX7_goesOn_127 : decode cX7_goesOn 127 = .ok (.goto 47, 3) := by decide +kernel
theorem dX7_goesOn_130 : decode cX7_goesOn 130 = .ok (.aload_n 0, 1) := by decide +kernel
theorem dX7_goesOn_131 : decode cX7_goesOn 131 = .ok (.bipush 45, 2) := by decide +kernel
theorem dX7_goesOn_133 : decode cX7_goesOn 133 = .ok (.invokevirtual 317, 3) := by decide +kernel
theorem dX7_goesOn_136 : decode cX7_goesOn 136 = .ok (.ifCond .eq 8, 3) := by decide +kernel
theorem dX7_goesOn_139 : decode cX7_goesOn 139 = .ok (.bipush 11, 2) := by decide +kernel
theorem dX7_goesOn_141 : decode cX7_goesOn 141 = .ok (.goto 33, 3) := by decide +kernel
theorem dX7_goesOn_144 : decode cX7_goesOn 144 = .ok (.aload_n 0, 1) := by decide +kernel
theorem dX7_goesOn_145 : decode cX7_goesOn 145 = .ok (.bipush 42, 2) := by decide +kernel
theorem dX7_goesOn_147 : decode cX7_goesOn 147 = .ok (.invokevirtual 317, 3) := by decide +kernel
theorem dX7_goesOn_150 : decode cX7_goesOn 150 = .ok (.ifCond .eq 8, 3) := by decide +kernel
theorem dX7_goesOn_153 : decode cX7_goesOn 153 = .ok (.bipush 12, 2) := by decide +kernel
theorem dX7_goesOn_155 : decode cX7_goesOn 155 = .ok (.goto 19, 3) := by decide +kernel
theorem dX7_goesOn_158 : decode cX7_goesOn 158 = .ok (.aload_n 0, 1) := by decide +kernel
theorem dX7_goesOn_159 : decode cX7_goesOn 159 = .ok (.bipush 47, 2) := by decide +kernel
theorem dX7_goesOn_161 : decode cX7_goesOn 161 = .ok (.invokevirtual 317, 3) := by decide +kernel
theorem dX7_goesOn_164 : decode cX7_goesOn 164 = .ok (.ifCond .eq 8, 3) := by decide +kernel
theorem dX7_goesOn_167 : decode cX7_goesOn 167 = .ok (.bipush 13, 2) := by decide +kernel
theorem dX7_goesOn_169 : decode cX7_goesOn 169 = .ok (.goto 5, 3) := by decide +kernel
theorem dX7_goesOn_172 : decode cX7_goesOn 172 = .ok (.bipush 14, 2) := by decide +kernel
theorem dX7_goesOn_174 : decode cX7_goesOn 174 = .ok (.invokevirtual 400, 3) := by decide +kernel
theorem dX7_goesOn_177 : decode cX7_goesOn 177 = .ok (.aload_n 0, 1) := by decide +kernel
theorem dX7_goesOn_178 : decode cX7_goesOn 178 = .ok (.invokevirtual 320, 3) := by decide +kernel
theorem dX7_goesOn_181 : decode cX7_goesOn 181 = .ok (.aload_n 0, 1) := by decide +kernel
theorem dX7_goesOn_182 : decode cX7_goesOn 182 = .ok (.iconst 0, 1) := by decide +kernel
theorem dX7_goesOn_183 : decode cX7_goesOn 183 = .ok (.putfield 155, 3) := by decide +kernel
theorem dX7_goesOn_186 : decode cX7_goesOn 186 = .ok (.iconst 1, 1) := by decide +kernel
theorem dX7_goesOn_187 : decode cX7_goesOn 187 = .ok (.ireturn, 1) := by decide +kernel
theorem dX7_goesOn_188 : decode cX7_goesOn 188 = .ok (.iload_n 3, 1) := by decide +kernel
theorem dX7_goesOn_189 : decode cX7_goesOn 189 = .ok (.ifCond .eq 96, 3) := by decide +kernel
theorem dX7_goesOn_192 : decode cX7_goesOn 192 = .ok (.aload_n 0, 1) := by decide +kernel
theorem dX7_goesOn_193 : decode cX7_goesOn 193 = .ok (.getfield 130, 3) := by decide +kernel
theorem dX7_goesOn_196 : decode cX7_goesOn 196 = .ok (.iload_n 1, 1) := by decide +kernel
theorem dX7_goesOn_197 : decode cX7_goesOn 197 = .ok (.iaload, 1) := by decide +kernel
theorem dX7_goesOn_198 : decode cX7_goesOn 198 = .ok (.ifCond .ne 87, 3) := by decide +kernel
theorem dX7_goesOn_201 : decode cX7_goesOn 201 = .ok (.aload_n 0, 1) := by decide +kernel
theorem dX7_goesOn_202 : decode cX7_goesOn 202 = .ok (.bipush 60, 2) := by decide +kernel
theorem dX7_goesOn_204 : decode cX7_goesOn 204 = .ok (.invokevirtual 317, 3) := by decide +kernel
theorem dX7_goesOn_207 : decode cX7_goesOn 207 = .ok (.ifCond .ne 21, 3) := by decide +kernel
theorem dX7_goesOn_210 : decode cX7_goesOn 210 = .ok (.aload_n 0, 1) := by decide +kernel
theorem dX7_goesOn_211 : decode cX7_goesOn 211 = .ok (.bipush 62, 2) := by decide +kernel
theorem dX7_goesOn_213 : decode cX7_goesOn 213 = .ok (.invokevirtual 317, 3) := by decide +kernel
theorem dX7_goesOn_216 : decode cX7_goesOn 216 = .ok (.ifCond .ne 12, 3) := by decide +kernel
theorem dX7_goesOn_219 : decode cX7_goesOn 219 = .ok (.aload_n 0, 1) := by decide +kernel
theorem dX7_goesOn_220 : decode cX7_goesOn 220 = .ok (.bipush 61, 2) := by decide +kernel
theorem dX7_goesOn_222 : decode cX7_goesOn 222 = .ok (.invokevirtual 317, 3) := by decide +kernel
theorem dX7_goesOn_225 : decode cX7_goesOn 225 = .ok (.ifCond .eq 60, 3) := by decide +kernel
theorem dX7_goesOn_228 : decode cX7_goesOn 228 = .ok (.aload_n 0, 1) := by decide +kernel
theorem dX7_goesOn_229 : decode cX7_goesOn 229 = .ok (.iconst 5, 1) := by decide +kernel
theorem dX7_goesOn_230 : decode cX7_goesOn 230 = .ok (.invokevirtual 406, 3) := by decide +kernel
theorem dX7_goesOn_233 : decode cX7_goesOn 233 = .ok (.aload_n 0, 1) := by decide +kernel
theorem dX7_goesOn_234 : decode cX7_goesOn 234 = .ok (.aload_n 0, 1) := by decide +kernel
theorem dX7_goesOn_235 : decode cX7_goesOn 235 = .ok (.bipush 60, 2) := by decide +kernel
theorem dX7_goesOn_237 : decode cX7_goesOn 237 = .ok (.invokevirtual 317, 3) := by decide +kernel
theorem dX7_goesOn_240 : decode cX7_goesOn 240 = .ok (.ifCond .eq 8, 3) := by decide +kernel
theorem dX7_goesOn_243 : decode cX7_goesOn 243 = .ok (.bipush 17, 2) := by decide +kernel
theorem dX7_goesOn_245 : decode cX7_goesOn 245 = .ok (.goto 19, 3) := by decide +kernel
theorem dX7_goesOn_248 : decode cX7_goesOn 248 = .ok (.aload_n 0, 1) := by decide +kernel
theorem dX7_goesOn_249 : decode cX7_goesOn 249 = .ok (.bipush 62, 2) := by decide +kernel
theorem dX7_goesOn_251 : decode cX7_goesOn 251 = .ok (.invokevirtual 317, 3) := by decide +kernel
theorem dX7_goesOn_254 : decode cX7_goesOn 254 = .ok (.ifCond .eq 8, 3) := by decide +kernel
theorem dX7_goesOn_257 : decode cX7_goesOn 257 = .ok (.bipush 18, 2) := by decide +kernel
theorem dX7_goesOn_259 : decode cX7_goesOn 259 = .ok (.goto 5, 3) := by decide +kernel
theorem dX7_goesOn_262 : decode cX7_goesOn 262 = .ok (.bipush 19, 2) := by decide +kernel
theorem dX7_goesOn_264 : decode cX7_goesOn 264 = .ok (.invokevirtual 400, 3) := by decide +kernel
theorem dX7_goesOn_267 : decode cX7_goesOn 267 = .ok (.aload_n 0, 1) := by decide +kernel
theorem dX7_goesOn_268 : decode cX7_goesOn 268 = .ok (.getfield 130, 3) := by decide +kernel
theorem dX7_goesOn_271 : decode cX7_goesOn 271 = .ok (.iload_n 1, 1) := by decide +kernel
theorem dX7_goesOn_272 : decode cX7_goesOn 272 = .ok (.iconst 1, 1) := by decide +kernel
theorem dX7_goesOn_273 : decode cX7_goesOn 273 = .ok (.iastore, 1) := by decide +kernel
theorem dX7_goesOn_274 : decode cX7_goesOn 274 = .ok (.aload_n 0, 1) := by decide +kernel
theorem dX7_goesOn_275 : decode cX7_goesOn 275 = .ok (.invokevirtual 320, 3) := by decide +kernel
theorem dX7_goesOn_278 : decode cX7_goesOn 278 = .ok (.aload_n 0, 1) := by decide +kernel
theorem dX7_goesOn_279 : decode cX7_goesOn 279 = .ok (.iconst 0, 1) := by decide +kernel
theorem dX7_goesOn_280 : decode cX7_goesOn 280 = .ok (.putfield 155, 3) := by decide +kernel
theorem dX7_goesOn_283 : decode cX7_goesOn 283 = .ok (.iconst 1, 1) := by decide +kernel
theorem dX7_goesOn_284 : decode cX7_goesOn 284 = .ok (.ireturn, 1) := by decide +kernel
theorem dX7_goesOn_285 : decode cX7_goesOn 285 = .ok (.iload_n 3, 1) := by decide +kernel
theorem dX7_goesOn_286 : decode cX7_goesOn 286 = .ok (.ifCond .eq 114, 3) := by decide +kernel
theorem dX7_goesOn_289 : decode cX7_goesOn 289 = .ok (.aload_n 0, 1) := by decide +kernel
theorem dX7_goesOn_290 : decode cX7_goesOn 290 = .ok (.ldc2_w 363, 3) := by decide +kernel
theorem dX7_goesOn_293 : decode cX7_goesOn 293 = .ok (.invokevirtual 397, 3) := by decide +kernel
theorem dX7_goesOn_296 : decode cX7_goesOn 296 = .ok (.ifCond .ne 13, 3) := by decide +kernel
theorem dX7_goesOn_299 : decode cX7_goesOn 299 = .ok (.aload_n 0, 1) := by decide +kernel
theorem dX7_goesOn_300 : decode cX7_goesOn 300 = .ok (.ldc2_w 361, 3) := by decide +kernel
theorem dX7_goesOn_303 : decode cX7_goesOn 303 = .ok (.invokevirtual 397, 3) := by decide +kernel
theorem dX7_goesOn_306 : decode cX7_goesOn 306 = .ok (.ifCond .eq 94, 3) := by decide +kernel
theorem dX7_goesOn_309 : decode cX7_goesOn 309 = .ok (.aload_n 0, 1) := by decide +kernel
theorem dX7_goesOn_310 : decode cX7_goesOn 310 = .ok (.getfield 130, 3) := by decide +kernel
theorem dX7_goesOn_313 : decode cX7_goesOn 313 = .ok (.iload_n 1, 1) := by decide +kernel
theorem dX7_goesOn_314 : decode cX7_goesOn 314 = .ok (.iaload, 1) := by decide +kernel
theorem dX7_goesOn_315 : decode cX7_goesOn 315 = .ok (.ifCond .ne 12, 3) := by decide +kernel
theorem dX7_goesOn_318 : decode cX7_goesOn 318 = .ok (.aload_n 0, 1) := by decide +kernel
theorem dX7_goesOn_319 : decode cX7_goesOn 319 = .ok (.iconst 1, 1) := by decide +kernel
theorem dX7_goesOn_320 : decode cX7_goesOn 320 = .ok (.aload_n 0, 1) := by decide +kernel
theorem dX7_goesOn_321 : decode cX7_goesOn 321 = .ok (.getfield 23, 3) := by decide +kernel
theorem dX7_goesOn_324 : decode cX7_goesOn 324 = .ok (.invokevirtual 299, 3) := by decide +kernel
theorem dX7_goesOn_327 : decode cX7_goesOn 327 = .ok (.aload_n 0, 1) := by decide +kernel
theorem dX7_goesOn_328 : decode cX7_goesOn 328 = .ok (.getfield 36, 3) := by decide +kernel
theorem dX7_goesOn_331 : decode cX7_goesOn 331 = .ok (.ifCond .le 5, 3) := by decide +kernel
theorem dX7_goesOn_334 : decode cX7_goesOn 334 = .ok (.iconst 0, 1) := by decide +kernel
theorem dX7_goesOn_335 : decode cX7_goesOn 335 = .ok (.ireturn, 1) := by decide +kernel
theorem dX7_goesOn_336 : decode cX7_goesOn 336 = .ok (.aload_n 0, 1) := by decide +kernel
theorem dX7_goesOn_337 : decode cX7_goesOn 337 = .ok (.ldc2_w 363, 3) := by decide +kernel
theorem dX7_goesOn_340 : decode cX7_goesOn 340 = .ok (.invokevirtual 397, 3) := by decide +kernel
theorem dX7_goesOn_343 : decode cX7_goesOn 343 = .ok (.istore 4, 2) := by decide +kernel
theorem dX7_goesOn_345 : decode cX7_goesOn 345 = .ok (.aload_n 0, 1) := by decide +kernel
theorem dX7_goesOn_346 : decode cX7_goesOn 346 = .ok (.iload 4, 2) := by decide +kernel
theorem dX7_goesOn_348 : decode cX7_goesOn 348 = .ok (.ifCond .eq 7, 3) := by decide +kernel
theorem dX7_goesOn_351 : decode cX7_goesOn 351 = .ok (.iconst 2, 1) := by decide +kernel
theorem dX7_goesOn_352 : decode cX7_goesOn 352 = .ok (.goto 4, 3) := by decide +kernel
theorem dX7_goesOn_355 : decode cX7_goesOn 355 = .ok (.iconst 1, 1) := by decide +kernel
theorem dX7_goesOn_356 : decode cX7_goesOn 356 = .ok (.invokevirtual 406, 3) := by decide +kernel
theorem dX7_goesOn_359 : decode cX7_goesOn 359 = .ok (.aload_n 0, 1) := by decide +kernel
theorem dX7_goesOn_360 : decode cX7_goesOn 360 = .ok (.iload 4, 2) := by decide +kernel
theorem dX7_goesOn_362 : decode cX7_goesOn 362 = .ok (.ifCond .eq 8, 3) := by decide +kernel
theorem dX7_goesOn_365 : decode cX7_goesOn 365 = .ok (.bipush 20, 2) := by decide +kernel
theorem dX7_goesOn_367 : decode cX7_goesOn 367 = .ok (.goto 5, 3) := by decide +kernel
theorem dX7_goesOn_370 : decode cX7_goesOn 370 = .ok (.bipush 21, 2) := by decide +kernel
theorem dX7_goesOn_372 : decode cX7_goesOn 372 = .ok (.invokevirtual 400, 3) := by decide +kernel
theorem dX7_goesOn_375 : decode cX7_goesOn 375 = .ok (.aload_n 0, 1) := by decide +kernel
theorem dX7_goesOn_376 : decode cX7_goesOn 376 = .ok (.getfield 130, 3) := by decide +kernel
theorem dX7_goesOn_379 : decode cX7_goesOn 379 = .ok (.iload_n 1, 1) := by decide +kernel
theorem dX7_goesOn_380 : decode cX7_goesOn 380 = .ok (.iconst 0, 1) := by decide +kernel
theorem dX7_goesOn_381 : decode cX7_goesOn 381 = .ok (.iastore, 1) := by decide +kernel
theorem dX7_goesOn_382 : decode cX7_goesOn 382 = .ok (.aload_n 0, 1) := by decide +kernel
theorem dX7_goesOn_383 : decode cX7_goesOn 383 = .ok (.getfield 133, 3) := by decide +kernel
theorem dX7_goesOn_386 : decode cX7_goesOn 386 = .ok (.iload_n 1, 1) := by decide +kernel
theorem dX7_goesOn_387 : decode cX7_goesOn 387 = .ok (.iconst 1, 1) := by decide +kernel
theorem dX7_goesOn_388 : decode cX7_goesOn 388 = .ok (.bastore, 1) := by decide +kernel
theorem dX7_goesOn_389 : decode cX7_goesOn 389 = .ok (.aload_n 0, 1) := by decide +kernel
theorem dX7_goesOn_390 : decode cX7_goesOn 390 = .ok (.invokevirtual 320, 3) := by decide +kernel
theorem dX7_goesOn_393 : decode cX7_goesOn 393 = .ok (.aload_n 0, 1) := by decide +kernel
theorem dX7_goesOn_394 : decode cX7_goesOn 394 = .ok (.iconst 0, 1) := by decide +kernel
theorem dX7_goesOn_395 : decode cX7_goesOn 395 = .ok (.putfield 155, 3) := by decide +kernel
theorem dX7_goesOn_398 : decode cX7_goesOn 398 = .ok (.iconst 1, 1) := by decide +kernel
theorem dX7_goesOn_399 : decode cX7_goesOn 399 = .ok (.ireturn, 1) := by decide +kernel
theorem dX7_goesOn_400 : decode cX7_goesOn 400 = .ok (.iload_n 3, 1) := by decide +kernel
theorem dX7_goesOn_401 : decode cX7_goesOn 401 = .ok (.ifCond .eq 21, 3) := by decide +kernel
theorem dX7_goesOn_404 : decode cX7_goesOn 404 = .ok (.aload_n 0, 1) := by decide +kernel
theorem dX7_goesOn_405 : decode cX7_goesOn 405 = .ok (.getfield 130, 3) := by decide +kernel
theorem dX7_goesOn_408 : decode cX7_goesOn 408 = .ok (.iload_n 1, 1) := by decide +kernel
theorem dX7_goesOn_409 : decode cX7_goesOn 409 = .ok (.iaload, 1) := by decide +kernel
theorem dX7_goesOn_410 : decode cX7_goesOn 410 = .ok (.ifCond .ne 12, 3) := by decide +kernel
theorem dX7_goesOn_413 : decode cX7_goesOn 413 = .ok (.aload_n 0, 1) := by decide +kernel
theorem dX7_goesOn_414 : decode cX7_goesOn 414 = .ok (.iconst 1, 1) := by decide +kernel
theorem dX7_goesOn_415 : decode cX7_goesOn 415 = .ok (.aload_n 0, 1) := by decide +kernel
theorem dX7_goesOn_416 : decode cX7_goesOn 416 = .ok (.getfield 23, 3) := by decide +kernel
theorem dX7_goesOn_419 : decode cX7_goesOn 419 = .ok (.invokevirtual 299, 3) := by decide +kernel
theorem dX7_goesOn_422 : decode cX7_goesOn 422 = .ok (.iload_n 2, 1) := by decide +kernel
theorem dX7_goesOn_423 : decode cX7_goesOn 423 = .ok (.iconst 2, 1) := by decide +kernel
theorem dX7_goesOn_424 : decode cX7_goesOn 424 = .ok (.if_icmp .ge 17, 3) := by decide +kernel
theorem dX7_goesOn_427 : decode cX7_goesOn 427 = .ok (.aload_n 0, 1) := by decide +kernel
theorem dX7_goesOn_428 : decode cX7_goesOn 428 = .ok (.getfield 36, 3) := by decide +kernel
theorem dX7_goesOn_431 : decode cX7_goesOn 431 = .ok (.ifCond .ne 8, 3) := by decide +kernel
theorem dX7_goesOn_434 : decode cX7_goesOn 434 = .ok (.aload_n 0, 1) := by decide +kernel
theorem dX7_goesOn_435 : decode cX7_goesOn 435 = .ok (.iconst 1, 1) := by decide +kernel
theorem dX7_goesOn_436 : decode cX7_goesOn 436 = .ok (.invokevirtual 406, 3) := by decide +kernel
theorem dX7_goesOn_439 : decode cX7_goesOn 439 = .ok (.iconst 0, 1) := by decide +kernel
theorem dX7_goesOn_440 : decode cX7_goesOn 440 = .ok (.ireturn, 1) := by decide +kernel
theorem dX7_goesOn_441 : decode cX7_goesOn 441 = .ok (.iload_n 2, 1) := by decide +kernel
theorem dX7_goesOn_442 : decode cX7_goesOn 442 = .ok (.iconst 3, 1) := by decide +kernel
theorem dX7_goesOn_443 : decode cX7_goesOn 443 = .ok (.if_icmp .ne 53, 3) := by decide +kernel
theorem dX7_goesOn_446 : decode cX7_goesOn 446 = .ok (.aload_n 0, 1) := by decide +kernel
theorem dX7_goesOn_447 : decode cX7_goesOn 447 = .ok (.bipush 44, 2) := by decide +kernel
theorem dX7_goesOn_449 : decode cX7_goesOn 449 = .ok (.invokevirtual 317, 3) := by decide +kernel
theorem dX7_goesOn_452 : decode cX7_goesOn 452 = .ok (.ifCond .ne 12, 3) := by decide +kernel
theorem dX7_goesOn_455 : decode cX7_goesOn 455 = .ok (.aload_n 0, 1) := by decide +kernel
theorem dX7_goesOn_456 : decode cX7_goesOn 456 = .ok (.iconst 1, 1) := by decide +kernel
theorem dX7_goesOn_457 : decode cX7_goesOn 457 = .ok (.aload_n 0, 1) := by decide +kernel
theorem dX7_goesOn_458 : decode cX7_goesOn 458 = .ok (.getfield 23, 3) := by decide +kernel
theorem dX7_goesOn_461 : decode cX7_goesOn 461 = .ok (.invokevirtual 299, 3) := by decide +kernel
theorem dX7_goesOn_464 : decode cX7_goesOn 464 = .ok (.aload_n 0, 1) := by decide +kernel
theorem dX7_goesOn_465 : decode cX7_goesOn 465 = .ok (.getfield 36, 3) := by decide +kernel
theorem dX7_goesOn_468 : decode cX7_goesOn 468 = .ok (.ifCond .le 5, 3) := by decide +kernel
theorem dX7_goesOn_471 : decode cX7_goesOn 471 = .ok (.iconst 0, 1) := by decide +kernel
theorem dX7_goesOn_472 : decode cX7_goesOn 472 = .ok (.ireturn, 1) := by decide +kernel
theorem dX7_goesOn_473 : decode cX7_goesOn 473 = .ok (.aload_n 0, 1) := by decide +kernel
theorem dX7_goesOn_474 : decode cX7_goesOn 474 = .ok (.iconst 1, 1) := by decide +kernel
theorem dX7_goesOn_475 : decode cX7_goesOn 475 = .ok (.invokevirtual 406, 3) := by decide +kernel
theorem dX7_goesOn_478 : decode cX7_goesOn 478 = .ok (.aload_n 0, 1) := by decide +kernel
theorem dX7_goesOn_479 : decode cX7_goesOn 479 = .ok (.getfield 127, 3) := by decide +kernel
theorem dX7_goesOn_482 : decode cX7_goesOn 482 = .ok (.iload_n 1, 1) := by decide +kernel
theorem dX7_goesOn_483 : decode cX7_goesOn 483 = .ok (.iconst 4, 1) := by decide +kernel
theorem dX7_goesOn_484 : decode cX7_goesOn 484 = .ok (.iastore, 1) := by decide +kernel
theorem dX7_goesOn_485 : decode cX7_goesOn 485 = .ok (.aload_n 0, 1) := by decide +kernel
theorem dX7_goesOn_486 : decode cX7_goesOn 486 = .ok (.invokevirtual 320, 3) := by decide +kernel
theorem dX7_goesOn_489 : decode cX7_goesOn 489 = .ok (.aload_n 0, 1) := by decide +kernel
theorem dX7_goesOn_490 : decode cX7_goesOn 490 = .ok (.iconst 0, 1) := by decide +kernel
theorem dX7_goesOn_491 : decode cX7_goesOn 491 = .ok (.putfield 155, 3) := by decide +kernel
theorem dX7_goesOn_494 : decode cX7_goesOn 494 = .ok (.iconst 1, 1) := by decide +kernel
theorem dX7_goesOn_495 : decode cX7_goesOn 495 = .ok (.ireturn, 1) := by decide +kernel
theorem dX7_goesOn_496 : decode cX7_goesOn 496 = .ok (.aload_n 0, 1) := by decide +kernel
theorem dX7_goesOn_497 : decode cX7_goesOn 497 = .ok (.iload_n 2, 1) := by decide +kernel
theorem dX7_goesOn_498 : decode cX7_goesOn 498 = .ok (.iconst 5, 1) := by decide +kernel
theorem dX7_goesOn_499 : decode cX7_goesOn 499 = .ok (.if_icmp .ne 8, 3) := by decide +kernel
theorem dX7_goesOn_502 : decode cX7_goesOn 502 = .ok (.bipush 93, 2) := by decide +kernel
theorem dX7_goesOn_504 : decode cX7_goesOn 504 = .ok (.goto 5, 3) := by decide +kernel
theorem dX7_goesOn_507 : decode cX7_goesOn 507 = .ok (.bipush 41, 2) := by decide +kernel
theorem dX7_goesOn_509 : decode cX7_goesOn 509 = .ok (.invokevirtual 317, 3) := by decide +kernel
theorem dX7_goesOn_512 : decode cX7_goesOn 512 = .ok (.ifCond .ne 12, 3) := by decide +kernel
theorem dX7_goesOn_515 : decode cX7_goesOn 515 = .ok (.aload_n 0, 1) := by decide +kernel
theorem dX7_goesOn_516 : decode cX7_goesOn 516 = .ok (.iconst 1, 1) := by decide +kernel
theorem dX7_goesOn_517 : decode cX7_goesOn 517 = .ok (.aload_n 0, 1) := by decide +kernel
theorem dX7_goesOn_518 : decode cX7_goesOn 518 = .ok (.getfield 23, 3) := by decide +kernel
theorem dX7_goesOn_521 : decode cX7_goesOn 521 = .ok (.invokevirtual 299, 3) := by decide +kernel
theorem dX7_goesOn_524 : decode cX7_goesOn 524 = .ok (.aload_n 0, 1) := by decide +kernel
theorem dX7_goesOn_525 : decode cX7_goesOn 525 = .ok (.getfield 36, 3) := by decide +kernel
theorem dX7_goesOn_528 : decode cX7_goesOn 528 = .ok (.ifCond .le 5, 3) := by decide +kernel
theorem dX7_goesOn_531 : decode cX7_goesOn 531 = .ok (.iconst 0, 1) := by decide +kernel
theorem dX7_goesOn_532 : decode cX7_goesOn 532 = .ok (.ireturn, 1) := by decide +kernel
theorem dX7_goesOn_533 : decode cX7_goesOn 533 = .ok (.aload_n 0, 1) := by decide +kernel
theorem dX7_goesOn_534 : decode cX7_goesOn 534 = .ok (.iconst 1, 1) := by decide +kernel
theorem dX7_goesOn_535 : decode cX7_goesOn 535 = .ok (.invokevirtual 406, 3) := by decide +kernel
theorem dX7_goesOn_538 : decode cX7_goesOn 538 = .ok (.aload_n 0, 1) := by decide +kernel
theorem dX7_goesOn_539 : decode cX7_goesOn 539 = .ok (.dup, 1) := by decide +kernel
theorem dX7_goesOn_540 : decode cX7_goesOn 540 = .ok (.getfield 143, 3) := by decide +kernel
theorem dX7_goesOn_543 : decode cX7_goesOn 543 = .ok (.iconst 1, 1) := by decide +kernel
theorem dX7_goesOn_544 : decode cX7_goesOn 544 = .ok (.isub, 1) := by decide +kernel
theorem dX7_goesOn_545 : decode cX7_goesOn 545 = .ok (.putfield 143, 3) := by decide +kernel
theorem dX7_goesOn_548 : decode cX7_goesOn 548 = .ok (.aload_n 0, 1) := by decide +kernel
theorem dX7_goesOn_549 : decode cX7_goesOn 549 = .ok (.dup, 1) := by decide +kernel
theorem dX7_goesOn_550 : decode cX7_goesOn 550 = .ok (.getfield 146, 3) := by decide +kernel
theorem dX7_goesOn_553 : decode cX7_goesOn 553 = .ok (.iconst 1, 1) := by decide +kernel
theorem dX7_goesOn_554 : decode cX7_goesOn 554 = .ok (.isub, 1) := by decide +kernel
theorem dX7_goesOn_555 : decode cX7_goesOn 555 = .ok (.putfield 146, 3) := by decide +kernel
theorem dX7_goesOn_558 : decode cX7_goesOn 558 = .ok (.iload_n 2, 1) := by decide +kernel
theorem dX7_goesOn_559 : decode cX7_goesOn 559 = .ok (.iconst 4, 1) := by decide +kernel
theorem dX7_goesOn_560 : decode cX7_goesOn 560 = .ok (.if_icmp .ne 14, 3) := by decide +kernel
theorem dX7_goesOn_563 : decode cX7_goesOn 563 = .ok (.aload_n 0, 1) := by decide +kernel
theorem dX7_goesOn_564 : decode cX7_goesOn 564 = .ok (.aload_n 0, 1) := by decide +kernel
theorem dX7_goesOn_565 : decode cX7_goesOn 565 = .ok (.getfield 137, 3) := by decide +kernel
theorem dX7_goesOn_568 : decode cX7_goesOn 568 = .ok (.iload_n 1, 1) := by decide +kernel
theorem dX7_goesOn_569 : decode cX7_goesOn 569 = .ok (.iaload, 1) := by decide +kernel
theorem dX7_goesOn_570 : decode cX7_goesOn 570 = .ok (.iconst 0, 1) := by decide +kernel
theorem dX7_goesOn_571 : decode cX7_goesOn 571 = .ok (.invokevirtual 388, 3) := by decide +kernel
theorem dX7_goesOn_574 : decode cX7_goesOn 574 = .ok (.iload_n 2, 1) := by decide +kernel
theorem dX7_goesOn_575 : decode cX7_goesOn 575 = .ok (.iconst 5, 1) := by decide +kernel
theorem dX7_goesOn_576 : decode cX7_goesOn 576 = .ok (.if_icmp .ne 15, 3) := by decide +kernel
theorem dX7_goesOn_579 : decode cX7_goesOn 579 = .ok (.aload_n 0, 1) := by decide +kernel
theorem dX7_goesOn_580 : decode cX7_goesOn 580 = .ok (.getfield 130, 3) := by decide +kernel
theorem dX7_goesOn_583 : decode cX7_goesOn 583 = .ok (.aload_n 0, 1) := by decide +kernel
theorem dX7_goesOn_584 : decode cX7_goesOn 584 = .ok (.getfield 143, 3) := by decide +kernel
theorem dX7_goesOn_587 : decode cX7_goesOn 587 = .ok (.iconst 1, 1) := by decide +kernel
theorem dX7_goesOn_588 : decode cX7_goesOn 588 = .ok (.isub, 1) := by decide +kernel
theorem dX7_goesOn_589 : decode cX7_goesOn 589 = .ok (.iconst 2, 1) := by decide +kernel
theorem dX7_goesOn_590 : decode cX7_goesOn 590 = .ok (.iastore, 1) := by decide +kernel
theorem dX7_goesOn_591 : decode cX7_goesOn 591 = .ok (.aload_n 0, 1) := by decide +kernel
theorem dX7_goesOn_592 : decode cX7_goesOn 592 = .ok (.invokevirtual 320, 3) := by decide +kernel
theorem dX7_goesOn_595 : decode cX7_goesOn 595 = .ok (.iconst 1, 1) := by decide +kernel
theorem dX7_goesOn_596 : decode cX7_goesOn 596 = .ok (.ireturn, 1) := by decide +kernel
set_option maxRecDepth 20000 in
theorem ggX7_reads_X7_pushes : GoodIn wsX7_reads wsX7_pushes := goodIn_r _ [10, 11, 2, 12, 13, 14, 4, 115, 116, 117, 118, 119, 120, 121, 122, 123, 124, 125, 126, 127, 128, 129, 130, 131, 132, 133, 134, 135, 136, 137, 138, 139, 140, 141, 142, 143, 144, 145, 146, 147, 148, 149, 150, 151, 152, 153, 154, 155, 156, 157, 158, 159, 160, 161, 162, 163, 164, 165, 166, 167, 168, 169, 170, 171, 172, 173, 174, 175, 176, 177, 178, 179, 180, 181, 182, 183, 184, 185, 186, 187, 188, 189, 190, 191, 192, 193, 194, 195, 196, 197, 198, 199, 200, 201, 202, 203, 204, 205, 206] rfl (by decide +kernel)
set_option maxRecDepth 20000 in
theorem gX7_reads_X7_pushes : GoodIn wsX7_reads (wsV RX7 391 RX7 yX7_pushes wsX7_pushes) := goodIn_app (goodIn_of _ (by decide +kernel)) ggX7_reads_X7_pushes
set_option maxRecDepth 20000 in
theorem ggX7_reads_X7_operand : GoodIn wsX7_reads wsX7_operand := goodIn_r _ [18, 1, 2, 11, 13, 19, 3, 20, 21, 12, 22, 23, 24, 25, 26, 27, 28, 29, 30, 31, 32, 33, 34, 35, 36, 9, 37, 38, 39, 40, 41, 42, 43, 44, 45, 46, 47, 48, 49, 50, 51, 52, 53, 54, 55, 56, 4, 57, 58, 59, 60, 61, 62, 63, 64, 65, 66, 67, 68, 69, 70, 71, 72, 73, 74, 75, 76, 77, 78, 79, 80, 81, 82, 83, 84, 85, 86, 87, 88, 89, 90, 91, 92, 93, 94, 95, 6, 7, 8, 10, 14, 96, 97, 98, 99, 100, 101, 102, 103, 115, 116, 117, 118, 119, 120, 121, 122, 123, 124, 125, 126, 127, 128, 129, 130, 131, 132, 133, 134, 135, 136, 137, 138, 139, 140, 141, 142, 143, 144, 145, 146, 147, 148, 149, 150, 151, 152, 153, 154, 155, 156, 157, 158, 159, 160, 161, 162, 163, 164, 165, 166, 167, 168, 169, 170, 171, 172, 173, 174, 175, 176, 177, 178, 179, 180, 181, 182, 183, 184, 185, 186, 187, 188, 189, 190, 191, 192, 193, 194, 195, 196, 197, 198, 199, 200, 201, 202, 203, 204, 205, 206] rfl (by decide +kernel)
set_option maxRecDepth 20000 in
theorem gX7_reads_X7_operand : GoodIn wsX7_reads (wsV RX7 409 RX7 yX7_operand wsX7_operand) := goodIn_app (goodIn_of _ (by decide +kernel)) ggX7_reads_X7_operand
set_option maxRecDepth 20000 in
theorem ggX7_reads_X7_goesOn : GoodIn wsX7_reads wsX7_goesOn := goodIn_r _ [107, 1, 2, 11, 12, 5, 87, 86, 20, 13, 3, 24, 34, 35, 36, 9, 37, 38, 39, 40, 41, 42, 43, 44, 45, 46, 88, 89, 90, 91, 25, 33, 108, 109, 110, 111, 4, 14, 56, 112, 113, 114, 96, 97, 98, 99, 100, 101, 102, 103, 52, 53, 54, 55, 57, 58, 59, 60, 61, 62, 63, 51, 64, 65, 66, 67, 68, 69, 70, 71, 72, 73, 74, 26, 32, 75, 76, 31, 77, 78, 79, 80, 81, 82, 83, 84, 85, 27, 28, 29, 30, 19, 21, 22, 23, 47, 48, 49, 50, 115, 116, 117, 118, 119, 120, 121, 122, 123, 124, 125, 126, 127, 128, 129, 130, 131, 132, 133, 134, 135, 136, 137, 138, 139, 140, 141, 142, 143, 144, 145, 146, 147, 148, 149, 150, 151, 152, 153, 154, 155, 156, 157, 158, 159, 160, 161, 162, 163, 164, 165, 166, 167, 168, 169, 170, 171, 172, 173, 174, 175, 176, 177, 178, 179, 180, 181, 182, 183, 184, 185, 186, 187, 188, 189, 190, 191, 192, 193, 194, 195, 196, 197, 198, 199, 200, 201, 202, 203, 204, 205, 206] rfl (by decide +kernel)
set_option maxRecDepth 20000 in
theorem gX7_reads_X7_goesOn : GoodIn wsX7_reads (wsV RX7 412 RX7 yX7_goesOn wsX7_goesOn) := goodIn_app (goodIn_of _ (by decide +kernel)) ggX7_reads_X7_goesOn
theorem dX7_reads_0 : decode cX7_reads 0 = .ok (.aload_n 0, 1) := by decide +kernel
theorem dX7_reads_1 : decode cX7_reads 1 = .ok (.getfield 36, 3) := by decide +kernel
theorem dX7_reads_4 : decode cX7_reads 4 = .ok (.ifCond .le 4, 3) := by decide +kernel
theorem dX7_reads_7 : decode cX7_reads 7 = .ok (.return_, 1) := by decide +kernel
theorem dX7_reads_8 : decode cX7_reads 8 = .ok (.aload_n 0, 1) := by decide +kernel
theorem dX7_reads_9 : decode cX7_reads 9 = .ok (.iconst 0, 1) := by decide +kernel
theorem dX7_reads_10 : decode cX7_reads 10 = .ok (.putfield 143, 3) := by decide +kernel
theorem dX7_reads_13 : decode cX7_reads 13 = .ok (.aload_n 0, 1) := by decide +kernel
theorem dX7_reads_14 : decode cX7_reads 14 = .ok (.iconst 0, 1) := by decide +kernel
theorem dX7_reads_15 : decode cX7_reads 15 = .ok (.putfield 146, 3) := by decide +kernel
theorem dX7_reads_18 : decode cX7_reads 18 = .ok (.aload_n 0, 1) := by decide +kernel
theorem dX7_reads_19 : decode cX7_reads 19 = .ok (.iconst 0, 1) := by decide +kernel
theorem dX7_reads_20 : decode cX7_reads 20 = .ok (.putfield 152, 3) := by decide +kernel
theorem dX7_reads_23 : decode cX7_reads 23 = .ok (.aload_n 0, 1) := by decide +kernel
theorem dX7_reads_24 : decode cX7_reads 24 = .ok (.iconst 0, 1) := by decide +kernel
theorem dX7_reads_25 : decode cX7_reads 25 = .ok (.putfield 155, 3) := by decide +kernel
theorem dX7_reads_28 : decode cX7_reads 28 = .ok (.aload_n 0, 1) := by decide +kernel
theorem dX7_reads_29 : decode cX7_reads 29 = .ok (.iload_n 1, 1) := by decide +kernel
theorem dX7_reads_30 : decode cX7_reads 30 = .ok (.ifCond .eq 7, 3) := by decide +kernel
theorem dX7_reads_33 : decode cX7_reads 33 = .ok (.iconst 1, 1) := by decide +kernel
theorem dX7_reads_34 : decode cX7_reads 34 = .ok (.goto 4, 3) := by decide +kernel
theorem dX7_reads_37 : decode cX7_reads 37 = .ok (.iconst 0, 1) := by decide +kernel
theorem dX7_reads_38 : decode cX7_reads 38 = .ok (.invokevirtual 391, 3) := by decide +kernel
theorem dX7_reads_41 : decode cX7_reads 41 = .ok (.iconst 1, 1) := by decide +kernel
theorem dX7_reads_42 : decode cX7_reads 42 = .ok (.istore_n 2, 1) := by decide +kernel
theorem dX7_reads_43 : decode cX7_reads 43 = .ok (.iload_n 2, 1) := by decide +kernel
theorem dX7_reads_44 : decode cX7_reads 44 = .ok (.ifCond .eq 46, 3) := by decide +kernel
theorem dX7_reads_47 : decode cX7_reads 47 = .ok (.aload_n 0, 1) := by decide +kernel
theorem dX7_reads_48 : decode cX7_reads 48 = .ok (.getfield 155, 3) := by decide +kernel
theorem dX7_reads_51 : decode cX7_reads 51 = .ok (.ifCond .ne 14, 3) := by decide +kernel
theorem dX7_reads_54 : decode cX7_reads 54 = .ok (.aload_n 0, 1) := by decide +kernel
theorem dX7_reads_55 : decode cX7_reads 55 = .ok (.aload_n 0, 1) := by decide +kernel
theorem dX7_reads_56 : decode cX7_reads 56 = .ok (.invokevirtual 409, 3) := by decide +kernel
theorem dX7_reads_59 : decode cX7_reads 59 = .ok (.putfield 155, 3) := by decide +kernel
theorem dX7_reads_62 : decode cX7_reads 62 = .ok (.goto 8, 3) := by decide +kernel
theorem dX7_reads_65 : decode cX7_reads 65 = .ok (.aload_n 0, 1) := by decide +kernel
theorem dX7_reads_66 : decode cX7_reads 66 = .ok (.invokevirtual 412, 3) := by decide +kernel
theorem dX7_reads_69 : decode cX7_reads 69 = .ok (.istore_n 2, 1) := by decide +kernel
theorem dX7_reads_70 : decode cX7_reads 70 = .ok (.iload_n 2, 1) := by decide +kernel
theorem dX7_reads_71 : decode cX7_reads 71 = .ok (.ifCond .eq 14, 3) := by decide +kernel
theorem dX7_reads_74 : decode cX7_reads 74 = .ok (.aload_n 0, 1) := by decide +kernel
theorem dX7_reads_75 : decode cX7_reads 75 = .ok (.getfield 36, 3) := by decide +kernel
theorem dX7_reads_78 : decode cX7_reads 78 = .ok (.ifCond .ne 7, 3) := by decide +kernel
theorem dX7_reads_81 : decode cX7_reads 81 = .ok (.iconst 1, 1) := by decide +kernel
theorem dX7_reads_82 : decode cX7_reads 82 = .ok (.goto 4, 3) := by decide +kernel
theorem dX7_reads_85 : decode cX7_reads 85 = .ok (.iconst 0, 1) := by decide +kernel
theorem dX7_reads_86 : decode cX7_reads 86 = .ok (.istore_n 2, 1) := by decide +kernel
theorem dX7_reads_87 : decode cX7_reads 87 = .ok (.goto (-44), 3) := by decide +kernel
theorem dX7_reads_90 : decode cX7_reads 90 = .ok (.return_, 1) := by decide +kernel
set_option maxRecDepth 20000 in
theorem ggX7_counts_X7_blame : GoodIn wsX7_counts wsX7_blame := goodIn_r _ [7, 1, 8, 55, 56, 57, 58, 59, 60, 61, 62, 63, 64, 65, 66, 67, 68, 69, 70, 71, 72, 73, 74, 75, 76, 77, 78, 79, 80, 81, 82, 83, 84, 85, 86, 87, 88, 89, 90, 91, 92, 93, 94, 95, 96, 97, 98, 99, 100, 101, 102, 103, 104, 105, 106, 107, 108, 109, 110, 111, 112, 113, 114, 115, 116, 117, 118, 119, 120, 121, 122, 123, 124, 125, 126, 127, 128, 129, 130, 131, 132, 133, 134, 135, 136, 137, 138, 139, 140, 141, 142, 143, 144, 145, 146] rfl (by decide +kernel)
set_option maxRecDepth 20000 in
theorem gX7_counts_X7_blame : GoodIn wsX7_counts (wsV RX7 299 RX7 yX7_blame wsX7_blame) := goodIn_app (goodIn_of _ (by decide +kernel)) ggX7_counts_X7_blame
set_option maxRecDepth 20000 in
theorem ggX7_counts_X7_ahead : GoodIn wsX7_counts wsX7_ahead := goodIn_r _ [12, 13, 14, 15, 2, 16, 17, 18, 19, 20, 21, 6, 22, 23, 24, 25, 26, 27, 28, 29, 30, 31, 32, 33, 34, 35, 36, 37, 38, 39, 40, 41, 42, 43, 44, 45, 46, 47, 48, 49, 50, 51, 52, 53, 54, 55, 56, 57, 58, 59, 60, 61, 62, 63, 64, 65, 66, 67, 68, 69, 70, 71, 72, 73, 74, 75, 76, 77, 78, 79, 80, 81, 82, 83, 84, 85, 86, 87, 88, 89, 90, 91, 92, 93, 94, 95, 96, 97, 98, 99, 100, 101, 102, 103, 104, 105, 106, 107, 108, 109, 110, 111, 112, 113, 114, 115, 116, 117, 118, 119, 120, 121, 122, 123, 124, 125, 126, 127, 128, 129, 130, 131, 132, 133, 134, 135, 136, 137, 138, 139, 140, 141, 142, 143, 144, 145, 146] rfl (by decide +kernel)
set_option maxRecDepth 20000 in
theorem gX7_counts_X7_ahead : GoodIn wsX7_counts (wsV RX7 320 RX7 yX7_ahead wsX7_ahead) := goodIn_app (goodIn_of _ (by decide +kernel)) ggX7_counts_X7_ahead
theorem dX7_counts_0 : decode cX7_counts 0 = .ok (.aload_n 0, 1) := by decide +kernel
theorem dX7_counts_1 : decode cX7_counts 1 = .ok (.getfield 36, 3) := by decide +kernel
theorem dX7_counts_4 : decode cX7_counts 4 = .ok (.ifCond .ne 17, 3) := by decide +kernel
theorem dX7_counts_7 : decode cX7_counts 7 = .ok (.iload_n 1, 1) := by decide +kernel
theorem dX7_counts_8 : decode cX7_counts 8 = .ok (.ifCond .eq 13, 3) := by decide +kernel
theorem dX7_counts_11 : decode cX7_counts 11 = .ok (.aload_n 0, 1) := by decide +kernel
theorem dX7_counts_12 : decode cX7_counts 12 = .ok (.bipush 6, 2) := by decide +kernel
theorem dX7_counts_14 : decode cX7_counts 14 = .ok (.aload_n 0, 1) := by decide +kernel
theorem dX7_counts_15 : decode cX7_counts 15 = .ok (.getfield 23, 3) := by decide +kernel
theorem dX7_counts_18 : decode cX7_counts 18 = .ok (.invokevirtual 299, 3) := by decide +kernel
theorem dX7_counts_21 : decode cX7_counts 21 = .ok (.aload_n 0, 1) := by decide +kernel
theorem dX7_counts_22 : decode cX7_counts 22 = .ok (.getfield 36, 3) := by decide +kernel
theorem dX7_counts_25 : decode cX7_counts 25 = .ok (.ifCond .ne 7, 3) := by decide +kernel
theorem dX7_counts_28 : decode cX7_counts 28 = .ok (.aload_n 0, 1) := by decide +kernel
theorem dX7_counts_29 : decode cX7_counts 29 = .ok (.invokevirtual 320, 3) := by decide +kernel
theorem dX7_counts_32 : decode cX7_counts 32 = .ok (.aload_n 0, 1) := by decide +kernel
theorem dX7_counts_33 : decode cX7_counts 33 = .ok (.getfield 36, 3) := by decide +kernel
theorem dX7_counts_36 : decode cX7_counts 36 = .ok (.ifCond .ne 7, 3) := by decide +kernel
theorem dX7_counts_39 : decode cX7_counts 39 = .ok (.iconst 1, 1) := by decide +kernel
theorem dX7_counts_40 : decode cX7_counts 40 = .ok (.goto 4, 3) := by decide +kernel
theorem dX7_counts_43 : decode cX7_counts 43 = .ok (.iconst 0, 1) := by decide +kernel
theorem dX7_counts_44 : decode cX7_counts 44 = .ok (.ireturn, 1) := by decide +kernel
set_option maxRecDepth 20000 in
theorem ggX7_must__X7_lex : GoodIn wsX7_must_ wsX7_lex := goodIn_r _ [7, 8, 9, 10, 11, 6, 12, 1, 13, 63, 64, 65, 66, 67, 68, 69, 70, 71, 72, 73, 74, 75, 76, 77, 78, 79, 80, 81, 82, 83, 84, 85, 86, 87, 88, 89, 90, 91, 92, 93, 94, 95, 96, 97, 98, 99, 100, 101, 102, 103, 104, 105, 106, 107, 108, 109, 110, 111, 112, 113, 114, 115, 116, 117, 118, 119, 120, 121, 122, 123, 124, 125, 126, 127, 128, 129, 130, 131, 132, 133, 134, 135, 136, 137, 138, 139, 140, 141, 142, 143, 144, 145, 146, 147, 148, 149, 150, 151, 152, 153, 154] rfl (by decide +kernel)
set_option maxRecDepth 20000 in
theorem gX7_must__X7_lex : GoodIn wsX7_must_ (wsV RX7 314 RX7 yX7_lex wsX7_lex) := goodIn_app (goodIn_of _ (by decide +kernel)) ggX7_must__X7_lex
set_option maxRecDepth 20000 in
theorem ggX7_must__X7_isWord : GoodIn wsX7_must_ wsX7_isWord := goodIn_r _ [17, 18, 19, 63, 64, 65, 66, 67, 68, 69, 70, 71, 72, 73, 74, 75, 76, 77, 78, 79, 80, 81, 82, 83, 84, 85, 86, 87, 88, 89, 90, 91, 92, 93, 94, 95, 96, 97, 98, 99, 100, 101, 102, 103, 104, 105, 106, 107, 108, 109, 110, 111, 112, 113, 114, 115, 116, 117, 118, 119, 120, 121, 122, 123, 124, 125, 126, 127, 128, 129, 130, 131, 132, 133, 134, 135, 136, 137, 138, 139, 140, 141, 142, 143, 144, 145, 146, 147, 148, 149, 150, 151, 152, 153, 154] rfl (by decide +kernel)
set_option maxRecDepth 20000 in
theorem gX7_must__X7_isWord : GoodIn wsX7_must_ (wsV RX7 397 RX7 yX7_isWord wsX7_isWord) := goodIn_app (goodIn_of _ (by decide +kernel)) ggX7_must__X7_isWord
set_option maxRecDepth 20000 in
theorem ggX7_must__X7_blame : GoodIn wsX7_must_ wsX7_blame := goodIn_r _ [12, 1, 13, 63, 64, 65, 66, 67, 68, 69, 70, 71, 72, 73, 74, 75, 76, 77, 78, 79, 80, 81, 82, 83, 84, 85, 86, 87, 88, 89, 90, 91, 92, 93, 94, 95, 96, 97, 98, 99, 100, 101, 102, 103, 104, 105, 106, 107, 108, 109, 110, 111, 112, 113, 114, 115, 116, 117, 118, 119, 120, 121, 122, 123, 124, 125, 126, 127, 128, 129, 130, 131, 132, 133, 134, 135, 136, 137, 138, 139, 140, 141, 142, 143, 144, 145, 146, 147, 148, 149, 150, 151, 152, 153, 154] rfl (by decide +kernel)
set_option maxRecDepth 20000 in
theorem gX7_must__X7_blame : GoodIn wsX7_must_ (wsV RX7 299 RX7 yX7_blame wsX7_blame) := goodIn_app (goodIn_of _ (by decide +kernel)) ggX7_must__X7_blame
set_option maxRecDepth 20000 in
theorem ggX7_must__X7_ahead : GoodIn wsX7_must_ wsX7_ahead := goodIn_r _ [23, 24, 25, 26, 2, 18, 8, 27, 19, 28, 29, 6, 30, 31, 32, 33, 34, 35, 36, 37, 38, 39, 40, 41, 42, 43, 44, 45, 46, 47, 48, 49, 50, 51, 52, 53, 54, 55, 56, 57, 58, 59, 60, 61, 62, 63, 64, 65, 66, 67, 68, 69, 70, 71, 72, 73, 74, 75, 76, 77, 78, 79, 80, 81, 82, 83, 84, 85, 86, 87, 88, 89, 90, 91, 92, 93, 94, 95, 96, 97, 98, 99, 100, 101, 102, 103, 104, 105, 106, 107, 108, 109, 110, 111, 112, 113, 114, 115, 116, 117, 118, 119, 120, 121, 122, 123, 124, 125, 126, 127, 128, 129, 130, 131, 132, 133, 134, 135, 136, 137, 138, 139, 140, 141, 142, 143, 144, 145, 146, 147, 148, 149, 150, 151, 152, 153, 154] rfl (by decide +kernel)
set_option maxRecDepth 20000 in
theorem gX7_must__X7_ahead : GoodIn wsX7_must_ (wsV RX7 320 RX7 yX7_ahead wsX7_ahead) := goodIn_app (goodIn_of _ (by decide +kernel)) ggX7_must__X7_ahead
theorem dX7_must__0 : decode cX7_must_ 0 = .ok (.aload_n 0, 1) := by decide +kernel
theorem dX7_must__1 : decode cX7_must_ 1 = .ok (.invokevirtual 314, 3) := by decide +kernel
theorem dX7_must__4 : decode cX7_must_ 4 = .ok (.aload_n 0, 1) := by decide +kernel
theorem dX7_must__5 : decode cX7_must_ 5 = .ok (.getfield 36, 3) := by decide +kernel
theorem dX7_must__8 : decode cX7_must_ 8 = .ok (.ifCond .le 4, 3) := by decide +kernel
theorem dX7_must__11 : decode cX7_must_ 11 = .ok (.return_, 1) := by decide +kernel
theorem dX7_must__12 : decode cX7_must_ 12 = .ok (.aload_n 0, 1) := by decide +kernel
theorem dX7_must__13 : decode cX7_must_ 13 = .ok (.lload_n 1, 1) := by decide +kernel
theorem dX7_must__14 : decode cX7_must_ 14 = .ok (.invokevirtual 397, 3) := by decide +kernel
theorem dX7_must__17 : decode cX7_must_ 17 = .ok (.ifCond .ne 12, 3) := by decide +kernel
theorem dX7_must__20 : decode cX7_must_ 20 = .ok (.aload_n 0, 1) := by decide +kernel
theorem dX7_must__21 : decode cX7_must_ 21 = .ok (.iconst 1, 1) := by decide +kernel
theorem dX7_must__22 : decode cX7_must_ 22 = .ok (.aload_n 0, 1) := by decide +kernel
theorem dX7_must__23 : decode cX7_must_ 23 = .ok (.getfield 23, 3) := by decide +kernel
theorem dX7_must__26 : decode cX7_must_ 26 = .ok (.invokevirtual 299, 3) := by decide +kernel
theorem dX7_must__29 : decode cX7_must_ 29 = .ok (.aload_n 0, 1) := by decide +kernel
theorem dX7_must__30 : decode cX7_must_ 30 = .ok (.getfield 36, 3) := by decide +kernel
theorem dX7_must__33 : decode cX7_must_ 33 = .ok (.ifCond .ne 7, 3) := by decide +kernel
theorem dX7_must__36 : decode cX7_must_ 36 = .ok (.aload_n 0, 1) := by decide +kernel
theorem dX7_must__37 : decode cX7_must_ 37 = .ok (.invokevirtual 320, 3) := by decide +kernel
theorem dX7_must__40 : decode cX7_must_ 40 = .ok (.return_, 1) := by decide +kernel
set_option maxRecDepth 20000 in
theorem ggX7_fresh_X7_lex : GoodIn wsX7_fresh wsX7_lex := goodIn_r _ [9, 10, 11, 12, 13, 8, 14, 1, 15, 76, 77, 78, 79, 80, 81, 82, 83, 84, 85, 86, 87, 88, 89, 90, 91, 92, 93, 94, 95, 96, 97, 98, 99, 100, 101, 102, 103, 104, 105, 106, 107, 108, 109, 110, 111, 112, 113, 114, 115, 116, 117, 118, 119, 120, 121, 122, 123, 124, 125, 126, 127, 128, 129, 130, 131, 132, 133, 134, 135, 136, 137, 138, 139, 140, 141, 142, 143, 144, 145, 146, 147, 148, 149, 150, 151, 152, 153, 154, 155, 156, 157, 158, 159, 160, 161, 162, 163, 164, 165, 166, 167] rfl (by decide +kernel)
set_option maxRecDepth 20000 in
theorem gX7_fresh_X7_lex : GoodIn wsX7_fresh (wsV RX7 314 RX7 yX7_lex wsX7_lex) := goodIn_app (goodIn_of _ (by decide +kernel)) ggX7_fresh_X7_lex
set_option maxRecDepth 20000 in
theorem ggX7_fresh_X7_isOwn : GoodIn wsX7_fresh wsX7_isOwn := goodIn_r _ [19, 20, 21, 22, 23, 24, 25, 26, 27, 28, 29, 30, 31, 32, 33, 34, 35, 36, 37, 38, 39, 40, 41, 42, 43, 44] rfl (by decide +kernel)
set_option maxRecDepth 20000 in
theorem gX7_fresh_X7_isOwn : GoodIn wsX7_fresh (wsV RX7 310 RX7 yX7_isOwn wsX7_isOwn) := goodIn_app (goodIn_of _ (by decide +kernel)) ggX7_fresh_X7_isOwn
set_option maxRecDepth 20000 in
theorem ggX7_fresh_X7_blame : GoodIn wsX7_fresh wsX7_blame := goodIn_r _ [14, 1, 15, 76, 77, 78, 79, 80, 81, 82, 83, 84, 85, 86, 87, 88, 89, 90, 91, 92, 93, 94, 95, 96, 97, 98, 99, 100, 101, 102, 103, 104, 105, 106, 107, 108, 109, 110, 111, 112, 113, 114, 115, 116, 117, 118, 119, 120, 121, 122, 123, 124, 125, 126, 127, 128, 129, 130, 131, 132, 133, 134, 135, 136, 137, 138, 139, 140, 141, 142, 143, 144, 145, 146, 147, 148, 149, 150, 151, 152, 153, 154, 155, 156, 157, 158, 159, 160, 161, 162, 163, 164, 165, 166, 167] rfl (by decide +kernel)
set_option maxRecDepth 20000 in
theorem gX7_fresh_X7_blame : GoodIn wsX7_fresh (wsV RX7 299 RX7 yX7_blame wsX7_blame) := goodIn_app (goodIn_of _ (by decide +kernel)) ggX7_fresh_X7_blame
set_option maxRecDepth 20000 in
theorem ggX7_fresh_X7_named : GoodIn wsX7_fresh wsX7_named := goodIn_r _ [48, 49, 50, 51, 52, 8, 53, 54, 55, 56, 57, 58, 59, 60, 61, 76, 77, 78, 79, 80, 81, 82, 83, 84, 85, 86, 87, 88, 89, 90, 91, 92, 93, 94, 95, 96, 97, 98, 99, 100, 101, 102, 103, 104, 105, 106, 107, 108, 109, 110, 111, 112, 113, 114, 115, 116, 117, 118, 119, 120, 121, 122, 123, 124, 125, 126, 127, 128, 129, 130, 131, 132, 133, 134, 135, 136, 137, 138, 139, 140, 141, 142, 143, 144, 145, 146, 147, 148, 149, 150, 151, 152, 153, 154, 155, 156, 157, 158, 159, 160, 161, 162, 163, 164, 165, 166, 167] rfl (by decide +kernel)
set_option maxRecDepth 20000 in
theorem gX7_fresh_X7_named : GoodIn wsX7_fresh (wsV RX7 415 RX7 yX7_named wsX7_named) := goodIn_app (goodIn_of _ (by decide +kernel)) ggX7_fresh_X7_named
set_option maxRecDepth 20000 in
theorem ggX7_fresh_X7_ahead : GoodIn wsX7_fresh wsX7_ahead := goodIn_r _ [65, 66, 67, 68, 4, 2, 10, 69, 3, 70, 71, 8, 72, 73, 74, 75, 16, 17, 18, 19, 20, 21, 22, 23, 24, 25, 26, 27, 28, 29, 30, 31, 32, 33, 34, 35, 36, 37, 38, 39, 40, 41, 42, 43, 44, 76, 77, 78, 79, 80, 81, 82, 83, 84, 85, 86, 87, 88, 89, 90, 91, 92, 93, 94, 95, 96, 97, 98, 99, 100, 101, 102, 103, 104, 105, 106, 107, 108, 109, 110, 111, 112, 113, 114, 115, 116, 117, 118, 119, 120, 121, 122, 123, 124, 125, 126, 127, 128, 129, 130, 131, 132, 133, 134, 135, 136, 137, 138, 139, 140, 141, 142, 143, 144, 145, 146, 147, 148, 149, 150, 151, 152, 153, 154, 155, 156, 157, 158, 159, 160, 161, 162, 163, 164, 165, 166, 167] rfl (by decide +kernel)
set_option maxRecDepth 20000 in
theorem gX7_fresh_X7_ahead : GoodIn wsX7_fresh (wsV RX7 320 RX7 yX7_ahead wsX7_ahead) := goodIn_app (goodIn_of _ (by decide +kernel)) ggX7_fresh_X7_ahead
theorem dX7_fresh_0 : decode cX7_fresh 0 = .ok (.aload_n 0, 1) := by decide +kernel
theorem dX7_fresh_1 : decode cX7_fresh 1 = .ok (.invokevirtual 314, 3) := by decide +kernel
theorem dX7_fresh_4 : decode cX7_fresh 4 = .ok (.aload_n 0, 1) := by decide +kernel
theorem dX7_fresh_5 : decode cX7_fresh 5 = .ok (.getfield 36, 3) := by decide +kernel
theorem dX7_fresh_8 : decode cX7_fresh 8 = .ok (.ifCond .le 5, 3) := by decide +kernel
theorem dX7_fresh_11 : decode cX7_fresh 11 = .ok (.lconst 0, 1) := by decide +kernel
theorem dX7_fresh_12 : decode cX7_fresh 12 = .ok (.lreturn, 1) := by decide +kernel
theorem dX7_fresh_13 : decode cX7_fresh 13 = .ok (.aload_n 0, 1) := by decide +kernel
theorem dX7_fresh_14 : decode cX7_fresh 14 = .ok (.getfield 20, 3) := by decide +kernel
theorem dX7_fresh_17 : decode cX7_fresh 17 = .ok (.iconst 1, 1) := by decide +kernel
theorem dX7_fresh_18 : decode cX7_fresh 18 = .ok (.if_icmp .ne 14, 3) := by decide +kernel
theorem dX7_fresh_21 : decode cX7_fresh 21 = .ok (.aload_n 0, 1) := by decide +kernel
theorem dX7_fresh_22 : decode cX7_fresh 22 = .ok (.aload_n 0, 1) := by decide +kernel
theorem dX7_fresh_23 : decode cX7_fresh 23 = .ok (.getfield 32, 3) := by decide +kernel
theorem dX7_fresh_26 : decode cX7_fresh 26 = .ok (.invokevirtual 310, 3) := by decide +kernel
theorem dX7_fresh_29 : decode cX7_fresh 29 = .ok (.ifCond .eq 12, 3) := by decide +kernel
theorem dX7_fresh_32 : decode cX7_fresh 32 = .ok (.aload_n 0, 1) := by decide +kernel
theorem dX7_fresh_33 : decode cX7_fresh 33 = .ok (.iconst 1, 1) := by decide +kernel
theorem dX7_fresh_34 : decode cX7_fresh 34 = .ok (.aload_n 0, 1) := by decide +kernel
theorem dX7_fresh_35 : decode cX7_fresh 35 = .ok (.getfield 23, 3) := by decide +kernel
theorem dX7_fresh_38 : decode cX7_fresh 38 = .ok (.invokevirtual 299, 3) := by decide +kernel
theorem dX7_fresh_41 : decode cX7_fresh 41 = .ok (.iconst 0, 1) := by decide +kernel
theorem dX7_fresh_42 : decode cX7_fresh 42 = .ok (.istore_n 1, 1) := by decide +kernel
theorem dX7_fresh_43 : decode cX7_fresh 43 = .ok (.iload_n 1, 1) := by decide +kernel
theorem dX7_fresh_44 : decode cX7_fresh 44 = .ok (.iconst 1, 1) := by decide +kernel
theorem dX7_fresh_45 : decode cX7_fresh 45 = .ok (.if_icmp .gt 38, 3) := by decide +kernel
theorem dX7_fresh_48 : decode cX7_fresh 48 = .ok (.aload_n 0, 1) := by decide +kernel
theorem dX7_fresh_49 : decode cX7_fresh 49 = .ok (.getfield 36, 3) := by decide +kernel
theorem dX7_fresh_52 : decode cX7_fresh 52 = .ok (.ifCond .ne 31, 3) := by decide +kernel
theorem dX7_fresh_55 : decode cX7_fresh 55 = .ok (.aload_n 0, 1) := by decide +kernel
theorem dX7_fresh_56 : decode cX7_fresh 56 = .ok (.iload_n 1, 1) := by decide +kernel
theorem dX7_fresh_57 : decode cX7_fresh 57 = .ok (.aload_n 0, 1) := by decide +kernel
theorem dX7_fresh_58 : decode cX7_fresh 58 = .ok (.getfield 32, 3) := by decide +kernel
theorem dX7_fresh_61 : decode cX7_fresh 61 = .ok (.invokevirtual 415, 3) := by decide +kernel
theorem dX7_fresh_64 : decode cX7_fresh 64 = .ok (.iconst (-1), 1) := by decide +kernel
theorem dX7_fresh_65 : decode cX7_fresh 65 = .ok (.if_icmp .eq 12, 3) := by decide +kernel
theorem dX7_fresh_68 : decode cX7_fresh 68 = .ok (.aload_n 0, 1) := by decide +kernel
theorem dX7_fresh_69 : decode cX7_fresh 69 = .ok (.iconst 2, 1) := by decide +kernel
theorem dX7_fresh_70 : decode cX7_fresh 70 = .ok (.aload_n 0, 1) := by decide +kernel
theorem dX7_fresh_71 : decode cX7_fresh 71 = .ok (.getfield 23, 3) := by decide +kernel
theorem dX7_fresh_74 : decode cX7_fresh 74 = .ok (.invokevirtual 299, 3) := by decide +kernel
theorem dX7_fresh_77 : decode cX7_fresh 77 = .ok (.iinc 1 1, 3) := by decide +kernel
theorem dX7_fresh_80 : decode cX7_fresh 80 = .ok (.goto (-37), 3) := by decide +kernel
theorem dX7_fresh_83 : decode cX7_fresh 83 = .ok (.aload_n 0, 1) := by decide +kernel
theorem dX7_fresh_84 : decode cX7_fresh 84 = .ok (.getfield 32, 3) := by decide +kernel
theorem dX7_fresh_87 : decode cX7_fresh 87 = .ok (.lstore_n 1, 1) := by decide +kernel
theorem dX7_fresh_88 : decode cX7_fresh 88 = .ok (.aload_n 0, 1) := by decide +kernel
theorem dX7_fresh_89 : decode cX7_fresh 89 = .ok (.getfield 36, 3) := by decide +kernel
theorem dX7_fresh_92 : decode cX7_fresh 92 = .ok (.ifCond .ne 7, 3) := by decide +kernel
theorem dX7_fresh_95 : decode cX7_fresh 95 = .ok (.aload_n 0, 1) := by decide +kernel
theorem dX7_fresh_96 : decode cX7_fresh 96 = .ok (.invokevirtual 320, 3) := by decide +kernel
theorem dX7_fresh_99 : decode cX7_fresh 99 = .ok (.lload_n 1, 1) := by decide +kernel
theorem dX7_fresh_100 : decode cX7_fresh 100 = .ok (.lreturn, 1) := by decide +kernel
set_option maxRecDepth 20000 in
theorem ggX7_looked_X7_lex : GoodIn wsX7_looked wsX7_lex := goodIn_r _ [9, 10, 11, 12, 13, 8, 14, 1, 15, 62, 63, 64, 65, 66, 67, 68, 69, 70, 71, 72, 73, 74, 75, 76, 77, 78, 79, 80, 81, 82, 83, 84, 85, 86, 87, 88, 89, 90, 91, 92, 93, 94, 95, 96, 97, 98, 99, 100, 101, 102, 103, 104, 105, 106, 107, 108, 109, 110, 111, 112, 113, 114, 115, 116, 117, 118, 119, 120, 121, 122, 123, 124, 125, 126, 127, 128, 129, 130, 131, 132, 133, 134, 135, 136, 137, 138, 139, 140, 141, 142, 143, 144, 145, 146, 147, 148, 149, 150, 151, 152, 153] rfl (by decide +kernel)
set_option maxRecDepth 20000 in
theorem gX7_looked_X7_lex : GoodIn wsX7_looked (wsV RX7 314 RX7 yX7_lex wsX7_lex) := goodIn_app (goodIn_of _ (by decide +kernel)) ggX7_looked_X7_lex
set_option maxRecDepth 20000 in
theorem ggX7_looked_X7_isOwn : GoodIn wsX7_looked wsX7_isOwn := goodIn_r _ [19, 20, 21, 22, 23, 24, 25, 26, 27, 28, 29, 30, 31, 32, 33, 34, 35, 36, 37, 38, 39, 40, 41, 42, 43, 44] rfl (by decide +kernel)
set_option maxRecDepth 20000 in
theorem gX7_looked_X7_isOwn : GoodIn wsX7_looked (wsV RX7 310 RX7 yX7_isOwn wsX7_isOwn) := goodIn_app (goodIn_of _ (by decide +kernel)) ggX7_looked_X7_isOwn
set_option maxRecDepth 20000 in
theorem ggX7_looked_X7_blame : GoodIn wsX7_looked wsX7_blame := goodIn_r _ [14, 1, 15, 62, 63, 64, 65, 66, 67, 68, 69, 70, 71, 72, 73, 74, 75, 76, 77, 78, 79, 80, 81, 82, 83, 84, 85, 86, 87, 88, 89, 90, 91, 92, 93, 94, 95, 96, 97, 98, 99, 100, 101, 102, 103, 104, 105, 106, 107, 108, 109, 110, 111, 112, 113, 114, 115, 116, 117, 118, 119, 120, 121, 122, 123, 124, 125, 126, 127, 128, 129, 130, 131, 132, 133, 134, 135, 136, 137, 138, 139, 140, 141, 142, 143, 144, 145, 146, 147, 148, 149, 150, 151, 152, 153] rfl (by decide +kernel)
set_option maxRecDepth 20000 in
theorem gX7_looked_X7_blame : GoodIn wsX7_looked (wsV RX7 299 RX7 yX7_blame wsX7_blame) := goodIn_app (goodIn_of _ (by decide +kernel)) ggX7_looked_X7_blame
set_option maxRecDepth 20000 in
theorem ggX7_looked_X7_named : GoodIn wsX7_looked wsX7_named := goodIn_r _ [48, 49, 50, 51, 52, 8, 53, 54, 55, 56, 57, 58, 59, 60, 61, 62, 63, 64, 65, 66, 67, 68, 69, 70, 71, 72, 73, 74, 75, 76, 77, 78, 79, 80, 81, 82, 83, 84, 85, 86, 87, 88, 89, 90, 91, 92, 93, 94, 95, 96, 97, 98, 99, 100, 101, 102, 103, 104, 105, 106, 107, 108, 109, 110, 111, 112, 113, 114, 115, 116, 117, 118, 119, 120, 121, 122, 123, 124, 125, 126, 127, 128, 129, 130, 131, 132, 133, 134, 135, 136, 137, 138, 139, 140, 141, 142, 143, 144, 145, 146, 147, 148, 149, 150, 151, 152, 153] rfl (by decide +kernel)
set_option maxRecDepth 20000 in
theorem gX7_looked_X7_named : GoodIn wsX7_looked (wsV RX7 415 RX7 yX7_named wsX7_named) := goodIn_app (goodIn_of _ (by decide +kernel)) ggX7_looked_X7_named
theorem dX7_looked_0 : decode cX7_looked 0 = .ok (.aload_n 0, 1) := by decide +kernel
theorem dX7_looked_1 : decode cX7_looked 1 = .ok (.invokevirtual 314, 3) := by decide +kernel
theorem dX7_looked_4 : decode cX7_looked 4 = .ok (.aload_n 0, 1) := by decide +kernel
theorem dX7_looked_5 : decode cX7_looked 5 = .ok (.getfield 36, 3) := by decide +kernel
theorem dX7_looked_8 : decode cX7_looked 8 = .ok (.ifCond .le 5, 3) := by decide +kernel
theorem dX7_looked_11 : decode cX7_looked 11 = .ok (.iconst 0, 1) := by decide +kernel
theorem dX7_looked_12 : decode cX7_looked 12 = .ok (.ireturn, 1) := by decide +kernel
theorem dX7_looked_13 : decode cX7_looked 13 = .ok (.aload_n 0, 1) := by decide +kernel
theorem dX7_looked_14 : decode cX7_looked 14 = .ok (.getfield 20, 3) := by decide +kernel
theorem dX7_looked_17 : decode cX7_looked 17 = .ok (.iconst 1, 1) := by decide +kernel
theorem dX7_looked_18 : decode cX7_looked 18 = .ok (.if_icmp .ne 14, 3) := by decide +kernel
theorem dX7_looked_21 : decode cX7_looked 21 = .ok (.aload_n 0, 1) := by decide +kernel
theorem dX7_looked_22 : decode cX7_looked 22 = .ok (.aload_n 0, 1) := by decide +kernel
theorem dX7_looked_23 : decode cX7_looked 23 = .ok (.getfield 32, 3) := by decide +kernel
theorem dX7_looked_26 : decode cX7_looked 26 = .ok (.invokevirtual 310, 3) := by decide +kernel
theorem dX7_looked_29 : decode cX7_looked 29 = .ok (.ifCond .eq 12, 3) := by decide +kernel
theorem dX7_looked_32 : decode cX7_looked 32 = .ok (.aload_n 0, 1) := by decide +kernel
theorem dX7_looked_33 : decode cX7_looked 33 = .ok (.iconst 1, 1) := by decide +kernel
theorem dX7_looked_34 : decode cX7_looked 34 = .ok (.aload_n 0, 1) := by decide +kernel
theorem dX7_looked_35 : decode cX7_looked 35 = .ok (.getfield 23, 3) := by decide +kernel
theorem dX7_looked_38 : decode cX7_looked 38 = .ok (.invokevirtual 299, 3) := by decide +kernel
theorem dX7_looked_41 : decode cX7_looked 41 = .ok (.aload_n 0, 1) := by decide +kernel
theorem dX7_looked_42 : decode cX7_looked 42 = .ok (.getfield 36, 3) := by decide +kernel
theorem dX7_looked_45 : decode cX7_looked 45 = .ok (.ifCond .le 7, 3) := by decide +kernel
theorem dX7_looked_48 : decode cX7_looked 48 = .ok (.iconst 0, 1) := by decide +kernel
theorem dX7_looked_49 : decode cX7_looked 49 = .ok (.goto 12, 3) := by decide +kernel
theorem dX7_looked_52 : decode cX7_looked 52 = .ok (.aload_n 0, 1) := by decide +kernel
theorem dX7_looked_53 : decode cX7_looked 53 = .ok (.iconst 0, 1) := by decide +kernel
theorem dX7_looked_54 : decode cX7_looked 54 = .ok (.aload_n 0, 1) := by decide +kernel
theorem dX7_looked_55 : decode cX7_looked 55 = .ok (.getfield 32, 3) := by decide +kernel
theorem dX7_looked_58 : decode cX7_looked 58 = .ok (.invokevirtual 415, 3) := by decide +kernel
theorem dX7_looked_61 : decode cX7_looked 61 = .ok (.istore_n 1, 1) := by decide +kernel
theorem dX7_looked_62 : decode cX7_looked 62 = .ok (.aload_n 0, 1) := by decide +kernel
theorem dX7_looked_63 : decode cX7_looked 63 = .ok (.getfield 36, 3) := by decide +kernel
theorem dX7_looked_66 : decode cX7_looked 66 = .ok (.ifCond .ne 17, 3) := by decide +kernel
theorem dX7_looked_69 : decode cX7_looked 69 = .ok (.iload_n 1, 1) := by decide +kernel
theorem dX7_looked_70 : decode cX7_looked 70 = .ok (.iconst (-1), 1) := by decide +kernel
theorem dX7_looked_71 : decode cX7_looked 71 = .ok (.if_icmp .ne 12, 3) := by decide +kernel
theorem dX7_looked_74 : decode cX7_looked 74 = .ok (.aload_n 0, 1) := by decide +kernel
theorem dX7_looked_75 : decode cX7_looked 75 = .ok (.iconst 3, 1) := by decide +kernel
theorem dX7_looked_76 : decode cX7_looked 76 = .ok (.aload_n 0, 1) := by decide +kernel
theorem dX7_looked_77 : decode cX7_looked 77 = .ok (.getfield 23, 3) := by decide +kernel
theorem dX7_looked_80 : decode cX7_looked 80 = .ok (.invokevirtual 299, 3) := by decide +kernel
theorem dX7_looked_83 : decode cX7_looked 83 = .ok (.aload_n 0, 1) := by decide +kernel
theorem dX7_looked_84 : decode cX7_looked 84 = .ok (.getfield 36, 3) := by decide +kernel
theorem dX7_looked_87 : decode cX7_looked 87 = .ok (.ifCond .le 7, 3) := by decide +kernel
theorem dX7_looked_90 : decode cX7_looked 90 = .ok (.iconst 0, 1) := by decide +kernel
theorem dX7_looked_91 : decode cX7_looked 91 = .ok (.goto 4, 3) := by decide +kernel
theorem dX7_looked_94 : decode cX7_looked 94 = .ok (.iload_n 1, 1) := by decide +kernel
theorem dX7_looked_95 : decode cX7_looked 95 = .ok (.ireturn, 1) := by decide +kernel
set_option maxRecDepth 20000 in
theorem ggX7_thinging_X7_counts : GoodIn wsX7_thinging wsX7_counts := goodIn_r _ [15, 9, 16, 17, 18, 19, 14, 20, 21, 22, 23, 24, 25, 26, 27, 28, 29, 30, 31, 32, 33, 34, 35, 36, 37, 38, 39, 40, 41, 42, 43, 4, 6, 10, 44, 45, 46, 47, 48, 49, 50, 51, 52, 53, 54, 55, 56, 57, 58, 59, 60, 61, 62, 63, 64, 102, 103, 104, 105, 106, 107, 108, 109, 110, 111, 112, 113, 114, 115, 116, 117, 118, 119, 120, 121, 122, 123, 124, 125, 126, 127, 128, 129, 130, 131, 132, 133, 134, 135, 136, 137, 138, 139, 140, 141, 142, 143, 144, 145, 146, 147, 148, 149, 150, 151, 152, 153, 154, 155, 156, 157, 158, 159, 160, 161, 162, 163, 164, 165, 166, 167, 168, 169, 170, 171, 172, 173, 174, 175, 176, 177, 178, 179, 180, 181, 182, 183, 184, 185, 186, 187, 188, 189, 190, 191, 192, 193] rfl (by decide +kernel)
set_option maxRecDepth 20000 in
theorem gX7_thinging_X7_counts : GoodIn wsX7_thinging (wsV RX7 419 RX7 yX7_counts wsX7_counts) := goodIn_app (goodIn_of _ (by decide +kernel)) ggX7_thinging_X7_counts
set_option maxRecDepth 20000 in
theorem ggX7_thinging_X7_fresh : GoodIn wsX7_thinging wsX7_fresh := goodIn_r _ [68, 9, 29, 32, 16, 69, 70, 71, 14, 72, 30, 17, 18, 19, 20, 21, 39, 40, 41, 42, 43, 4, 6, 10, 44, 45, 46, 47, 48, 49, 50, 51, 52, 53, 54, 55, 56, 57, 58, 59, 60, 61, 62, 63, 64, 73, 74, 75, 76, 2, 77, 78, 79, 80, 1, 81, 82, 83, 84, 85, 3, 86, 22, 23, 24, 25, 26, 27, 28, 31, 33, 34, 35, 36, 37, 38, 102, 103, 104, 105, 106, 107, 108, 109, 110, 111, 112, 113, 114, 115, 116, 117, 118, 119, 120, 121, 122, 123, 124, 125, 126, 127, 128, 129, 130, 131, 132, 133, 134, 135, 136, 137, 138, 139, 140, 141, 142, 143, 144, 145, 146, 147, 148, 149, 150, 151, 152, 153, 154, 155, 156, 157, 158, 159, 160, 161, 162, 163, 164, 165, 166, 167, 168, 169, 170, 171, 172, 173, 174, 175, 176, 177, 178, 179, 180, 181, 182, 183, 184, 185, 186, 187, 188, 189, 190, 191, 192, 193] rfl (by decide +kernel)
set_option maxRecDepth 20000 in
theorem gX7_thinging_X7_fresh : GoodIn wsX7_thinging (wsV RX7 423 RX7 yX7_fresh wsX7_fresh) := goodIn_app (goodIn_of _ (by decide +kernel)) ggX7_thinging_X7_fresh
set_option maxRecDepth 20000 in
theorem ggX7_thinging_X7_must_ : GoodIn wsX7_thinging wsX7_must_ := goodIn_r _ [90, 9, 16, 69, 70, 71, 14, 72, 30, 17, 18, 19, 20, 21, 91, 92, 93, 94, 29, 32, 22, 23, 24, 25, 26, 27, 28, 31, 33, 34, 35, 36, 37, 38, 39, 40, 41, 42, 43, 4, 6, 10, 44, 45, 46, 47, 48, 49, 50, 51, 52, 53, 54, 55, 56, 57, 58, 59, 60, 61, 62, 63, 64, 102, 103, 104, 105, 106, 107, 108, 109, 110, 111, 112, 113, 114, 115, 116, 117, 118, 119, 120, 121, 122, 123, 124, 125, 126, 127, 128, 129, 130, 131, 132, 133, 134, 135, 136, 137, 138, 139, 140, 141, 142, 143, 144, 145, 146, 147, 148, 149, 150, 151, 152, 153, 154, 155, 156, 157, 158, 159, 160, 161, 162, 163, 164, 165, 166, 167, 168, 169, 170, 171, 172, 173, 174, 175, 176, 177, 178, 179, 180, 181, 182, 183, 184, 185, 186, 187, 188, 189, 190, 191, 192, 193] rfl (by decide +kernel)
set_option maxRecDepth 20000 in
theorem gX7_thinging_X7_must_ : GoodIn wsX7_thinging (wsV RX7 427 RX7 yX7_must_ wsX7_must_) := goodIn_app (goodIn_of _ (by decide +kernel)) ggX7_thinging_X7_must_
set_option maxRecDepth 20000 in
theorem ggX7_thinging_X7_number : GoodIn wsX7_thinging wsX7_number := goodIn_r _ [98, 9, 29, 16, 31, 69, 70, 71, 14, 72, 30, 17, 18, 19, 20, 21, 99, 100, 101, 22, 23, 24, 25, 26, 27, 28, 32, 33, 34, 35, 36, 37, 38, 39, 40, 41, 42, 43, 4, 6, 10, 44, 45, 46, 47, 48, 49, 50, 51, 52, 53, 54, 55, 56, 57, 58, 59, 60, 61, 62, 63, 64, 102, 103, 104, 105, 106, 107, 108, 109, 110, 111, 112, 113, 114, 115, 116, 117, 118, 119, 120, 121, 122, 123, 124, 125, 126, 127, 128, 129, 130, 131, 132, 133, 134, 135, 136, 137, 138, 139, 140, 141, 142, 143, 144, 145, 146, 147, 148, 149, 150, 151, 152, 153, 154, 155, 156, 157, 158, 159, 160, 161, 162, 163, 164, 165, 166, 167, 168, 169, 170, 171, 172, 173, 174, 175, 176, 177, 178, 179, 180, 181, 182, 183, 184, 185, 186, 187, 188, 189, 190, 191, 192, 193] rfl (by decide +kernel)
set_option maxRecDepth 20000 in
theorem gX7_thinging_X7_number : GoodIn wsX7_thinging (wsV RX7 431 RX7 yX7_number wsX7_number) := goodIn_app (goodIn_of _ (by decide +kernel)) ggX7_thinging_X7_number
set_option maxRecDepth 20000 in
theorem ggX7_thinging_X7_lex : GoodIn wsX7_thinging wsX7_lex := goodIn_r _ [72, 30, 17, 18, 19, 14, 20, 9, 21, 102, 103, 104, 105, 106, 107, 108, 109, 110, 111, 112, 113, 114, 115, 116, 117, 118, 119, 120, 121, 122, 123, 124, 125, 126, 127, 128, 129, 130, 131, 132, 133, 134, 135, 136, 137, 138, 139, 140, 141, 142, 143, 144, 145, 146, 147, 148, 149, 150, 151, 152, 153, 154, 155, 156, 157, 158, 159, 160, 161, 162, 163, 164, 165, 166, 167, 168, 169, 170, 171, 172, 173, 174, 175, 176, 177, 178, 179, 180, 181, 182, 183, 184, 185, 186, 187, 188, 189, 190, 191, 192, 193] rfl (by decide +kernel)
set_option maxRecDepth 20000 in
theorem gX7_thinging_X7_lex : GoodIn wsX7_thinging (wsV RX7 314 RX7 yX7_lex wsX7_lex) := goodIn_app (goodIn_of _ (by decide +kernel)) ggX7_thinging_X7_lex
set_option maxRecDepth 20000 in
theorem ggX7_thinging_X7_isWord : GoodIn wsX7_thinging wsX7_isWord := goodIn_r _ [94, 29, 32, 102, 103, 104, 105, 106, 107, 108, 109, 110, 111, 112, 113, 114, 115, 116, 117, 118, 119, 120, 121, 122, 123, 124, 125, 126, 127, 128, 129, 130, 131, 132, 133, 134, 135, 136, 137, 138, 139, 140, 141, 142, 143, 144, 145, 146, 147, 148, 149, 150, 151, 152, 153, 154, 155, 156, 157, 158, 159, 160, 161, 162, 163, 164, 165, 166, 167, 168, 169, 170, 171, 172, 173, 174, 175, 176, 177, 178, 179, 180, 181, 182, 183, 184, 185, 186, 187, 188, 189, 190, 191, 192, 193] rfl (by decide +kernel)
set_option maxRecDepth 20000 in
theorem gX7_thinging_X7_isWord : GoodIn wsX7_thinging (wsV RX7 397 RX7 yX7_isWord wsX7_isWord) := goodIn_app (goodIn_of _ (by decide +kernel)) ggX7_thinging_X7_isWord
set_option maxRecDepth 20000 in
theorem ggX7_thinging_X7_ahead : GoodIn wsX7_thinging wsX7_ahead := goodIn_r _ [25, 26, 27, 28, 16, 29, 30, 31, 32, 33, 34, 14, 35, 36, 37, 38, 39, 40, 41, 42, 43, 4, 6, 10, 44, 45, 46, 47, 48, 49, 50, 51, 52, 53, 54, 55, 56, 57, 58, 59, 60, 61, 62, 63, 64, 102, 103, 104, 105, 106, 107, 108, 109, 110, 111, 112, 113, 114, 115, 116, 117, 118, 119, 120, 121, 122, 123, 124, 125, 126, 127, 128, 129, 130, 131, 132, 133, 134, 135, 136, 137, 138, 139, 140, 141, 142, 143, 144, 145, 146, 147, 148, 149, 150, 151, 152, 153, 154, 155, 156, 157, 158, 159, 160, 161, 162, 163, 164, 165, 166, 167, 168, 169, 170, 171, 172, 173, 174, 175, 176, 177, 178, 179, 180, 181, 182, 183, 184, 185, 186, 187, 188, 189, 190, 191, 192, 193] rfl (by decide +kernel)
set_option maxRecDepth 20000 in
theorem gX7_thinging_X7_ahead : GoodIn wsX7_thinging (wsV RX7 320 RX7 yX7_ahead wsX7_ahead) := goodIn_app (goodIn_of _ (by decide +kernel)) ggX7_thinging_X7_ahead
theorem dX7_thinging_0 : decode cX7_thinging 0 = .ok (.aload_n 0, 1) := by decide +kernel
theorem dX7_thinging_1 : decode cX7_thinging 1 = .ok (.aload_n 0, 1) := by decide +kernel
theorem dX7_thinging_2 : decode cX7_thinging 2 = .ok (.getfield 54, 3) := by decide +kernel
theorem dX7_thinging_5 : decode cX7_thinging 5 = .ok (.aload_n 0, 1) := by decide +kernel
theorem dX7_thinging_6 : decode cX7_thinging 6 = .ok (.getfield 124, 3) := by decide +kernel
theorem dX7_thinging_9 : decode cX7_thinging 9 = .ok (.iaload, 1) := by decide +kernel
theorem dX7_thinging_10 : decode cX7_thinging 10 = .ok (.bipush 10, 2) := by decide +kernel
theorem dX7_thinging_12 : decode cX7_thinging 12 = .ok (.if_icmp .ne 7, 3) := by decide +kernel
theorem dX7_thinging_15 : decode cX7_thinging 15 = .ok (.iconst 1, 1) := by decide +kernel
theorem dX7_thinging_16 : decode cX7_thinging 16 = .ok (.goto 4, 3) := by decide +kernel
theorem dX7_thinging_19 : decode cX7_thinging 19 = .ok (.iconst 0, 1) := by decide +kernel
theorem dX7_thinging_20 : decode cX7_thinging 20 = .ok (.invokevirtual 419, 3) := by decide +kernel
theorem dX7_thinging_23 : decode cX7_thinging 23 = .ok (.ifCond .ne 4, 3) := by decide +kernel
theorem dX7_thinging_26 : decode cX7_thinging 26 = .ok (.return_, 1) := by decide +kernel
theorem dX7_thinging_27 : decode cX7_thinging 27 = .ok (.bipush 10, 2) := by decide +kernel
theorem dX7_thinging_29 : decode cX7_thinging 29 = .ok (.aload_n 0, 1) := by decide +kernel
theorem dX7_thinging_30 : decode cX7_thinging 30 = .ok (.getfield 124, 3) := by decide +kernel
theorem dX7_thinging_33 : decode cX7_thinging 33 = .ok (.imul, 1) := by decide +kernel
theorem dX7_thinging_34 : decode cX7_thinging 34 = .ok (.aload_n 0, 1) := by decide +kernel
theorem dX7_thinging_35 : decode cX7_thinging 35 = .ok (.getfield 54, 3) := by decide +kernel
theorem dX7_thinging_38 : decode cX7_thinging 38 = .ok (.aload_n 0, 1) := by decide +kernel
theorem dX7_thinging_39 : decode cX7_thinging 39 = .ok (.getfield 124, 3) := by decide +kernel
theorem dX7_thinging_42 : decode cX7_thinging 42 = .ok (.iaload, 1) := by decide +kernel
theorem dX7_thinging_43 : decode cX7_thinging 43 = .ok (.iadd, 1) := by decide +kernel
theorem dX7_thinging_44 : decode cX7_thinging 44 = .ok (.istore_n 1, 1) := by decide +kernel
theorem dX7_thinging_45 : decode cX7_thinging 45 = .ok (.aload_n 0, 1) := by decide +kernel
theorem dX7_thinging_46 : decode cX7_thinging 46 = .ok (.getfield 114, 3) := by decide +kernel
theorem dX7_thinging_49 : decode cX7_thinging 49 = .ok (.iload_n 1, 1) := by decide +kernel
theorem dX7_thinging_50 : decode cX7_thinging 50 = .ok (.aload_n 0, 1) := by decide +kernel
theorem dX7_thinging_51 : decode cX7_thinging 51 = .ok (.invokevirtual 423, 3) := by decide +kernel
theorem dX7_thinging_54 : decode cX7_thinging 54 = .ok (.lastore, 1) := by decide +kernel
theorem dX7_thinging_55 : decode cX7_thinging 55 = .ok (.aload_n 0, 1) := by decide +kernel
theorem dX7_thinging_56 : decode cX7_thinging 56 = .ok (.ldc2_w 325, 3) := by decide +kernel
theorem dX7_thinging_59 : decode cX7_thinging 59 = .ok (.invokevirtual 427, 3) := by decide +kernel
theorem dX7_thinging_62 : decode cX7_thinging 62 = .ok (.aload_n 0, 1) := by decide +kernel
theorem dX7_thinging_63 : decode cX7_thinging 63 = .ok (.getfield 57, 3) := by decide +kernel
theorem dX7_thinging_66 : decode cX7_thinging 66 = .ok (.iload_n 1, 1) := by decide +kernel
theorem dX7_thinging_67 : decode cX7_thinging 67 = .ok (.aload_n 0, 1) := by decide +kernel
theorem dX7_thinging_68 : decode cX7_thinging 68 = .ok (.iconst 0, 1) := by decide +kernel
theorem dX7_thinging_69 : decode cX7_thinging 69 = .ok (.bipush 99, 2) := by decide +kernel
theorem dX7_thinging_71 : decode cX7_thinging 71 = .ok (.invokevirtual 431, 3) := by decide +kernel
theorem dX7_thinging_74 : decode cX7_thinging 74 = .ok (.iastore, 1) := by decide +kernel
theorem dX7_thinging_75 : decode cX7_thinging 75 = .ok (.aload_n 0, 1) := by decide +kernel
theorem dX7_thinging_76 : decode cX7_thinging 76 = .ok (.ldc2_w 327, 3) := by decide +kernel
theorem dX7_thinging_79 : decode cX7_thinging 79 = .ok (.invokevirtual 427, 3) := by decide +kernel
theorem dX7_thinging_82 : decode cX7_thinging 82 = .ok (.aload_n 0, 1) := by decide +kernel
theorem dX7_thinging_83 : decode cX7_thinging 83 = .ok (.getfield 60, 3) := by decide +kernel
theorem dX7_thinging_86 : decode cX7_thinging 86 = .ok (.iload_n 1, 1) := by decide +kernel
theorem dX7_thinging_87 : decode cX7_thinging 87 = .ok (.aload_n 0, 1) := by decide +kernel
theorem dX7_thinging_88 : decode cX7_thinging 88 = .ok (.iconst 1, 1) := by decide +kernel
theorem dX7_thinging_89 : decode cX7_thinging 89 = .ok (.bipush 9, 2) := by decide +kernel
theorem dX7_thinging_91 : decode cX7_thinging 91 = .ok (.invokevirtual 431, 3) := by decide +kernel
theorem dX7_thinging_94 : decode cX7_thinging 94 = .ok (.iastore, 1) := by decide +kernel
theorem dX7_thinging_95 : decode cX7_thinging 95 = .ok (.aload_n 0, 1) := by decide +kernel
theorem dX7_thinging_96 : decode cX7_thinging 96 = .ok (.getfield 63, 3) := by decide +kernel
theorem dX7_thinging_99 : decode cX7_thinging 99 = .ok (.iload_n 1, 1) := by decide +kernel
theorem dX7_thinging_100 : decode cX7_thinging 100 = .ok (.iconst 0, 1) := by decide +kernel
theorem dX7_thinging_101 : decode cX7_thinging 101 = .ok (.iastore, 1) := by decide +kernel
theorem dX7_thinging_102 : decode cX7_thinging 102 = .ok (.aload_n 0, 1) := by decide +kernel
theorem dX7_thinging_103 : decode cX7_thinging 103 = .ok (.invokevirtual 314, 3) := by decide +kernel
theorem dX7_thinging_106 : decode cX7_thinging 106 = .ok (.aload_n 0, 1) := by decide +kernel
theorem dX7_thinging_107 : decode cX7_thinging 107 = .ok (.getfield 36, 3) := by decide +kernel
theorem dX7_thinging_110 : decode cX7_thinging 110 = .ok (.ifCond .le 4, 3) := by decide +kernel
theorem dX7_thinging_113 : decode cX7_thinging 113 = .ok (.return_, 1) := by decide +kernel
theorem dX7_thinging_114 : decode cX7_thinging 114 = .ok (.aload_n 0, 1) := by decide +kernel
theorem dX7_thinging_115 : decode cX7_thinging 115 = .ok (.ldc2_w 329, 3) := by decide +kernel
theorem dX7_thinging_118 : decode cX7_thinging 118 = .ok (.invokevirtual 397, 3) := by decide +kernel
theorem dX7_thinging_121 : decode cX7_thinging 121 = .ok (.ifCond .eq 14, 3) := by decide +kernel
theorem dX7_thinging_124 : decode cX7_thinging 124 = .ok (.aload_n 0, 1) := by decide +kernel
theorem dX7_thinging_125 : decode cX7_thinging 125 = .ok (.getfield 63, 3) := by decide +kernel
theorem dX7_thinging_128 : decode cX7_thinging 128 = .ok (.iload_n 1, 1) := by decide +kernel
theorem dX7_thinging_129 : decode cX7_thinging 129 = .ok (.iconst 1, 1) := by decide +kernel
theorem dX7_thinging_130 : decode cX7_thinging 130 = .ok (.iastore, 1) := by decide +kernel
theorem dX7_thinging_131 : decode cX7_thinging 131 = .ok (.aload_n 0, 1) := by decide +kernel
theorem dX7_thinging_132 : decode cX7_thinging 132 = .ok (.invokevirtual 320, 3) := by decide +kernel
theorem dX7_thinging_135 : decode cX7_thinging 135 = .ok (.aload_n 0, 1) := by decide +kernel
theorem dX7_thinging_136 : decode cX7_thinging 136 = .ok (.getfield 54, 3) := by decide +kernel
theorem dX7_thinging_139 : decode cX7_thinging 139 = .ok (.aload_n 0, 1) := by decide +kernel
theorem dX7_thinging_140 : decode cX7_thinging 140 = .ok (.getfield 124, 3) := by decide +kernel
theorem dX7_thinging_143 : decode cX7_thinging 143 = .ok (.dup2, 1) := by decide +kernel
theorem dX7_thinging_144 : decode cX7_thinging 144 = .ok (.iaload, 1) := by decide +kernel
theorem dX7_thinging_145 : decode cX7_thinging 145 = .ok (.iconst 1, 1) := by decide +kernel
theorem dX7_thinging_146 : decode cX7_thinging 146 = .ok (.iadd, 1) := by decide +kernel
theorem dX7_thinging_147 : decode cX7_thinging 147 = .ok (.iastore, 1) := by decide +kernel
theorem dX7_thinging_148 : decode cX7_thinging 148 = .ok (.return_, 1) := by decide +kernel
set_option maxRecDepth 20000 in
theorem ggX7_rowOf_X7_looked : GoodIn wsX7_rowOf wsX7_looked := goodIn_r _ [9, 1, 3, 4, 2, 10, 11, 12, 8, 13, 14, 15, 16, 17, 18, 19, 20, 21, 22, 23, 24, 25, 26, 27, 28, 29, 30, 31, 32, 33, 34, 35, 36, 37, 38, 39, 40, 41, 42, 43, 44, 45, 46, 47, 48, 49, 50, 51, 52, 53, 54, 55, 56, 57, 58, 59, 60, 61, 62, 63, 64, 65, 80, 81, 82, 83, 84, 85, 86, 87, 88, 89, 90, 91, 92, 93, 94, 95, 96, 97, 98, 99, 100, 101, 102, 103, 104, 105, 106, 107, 108, 109, 110, 111, 112, 113, 114, 115, 116, 117, 118, 119, 120, 121, 122, 123, 124, 125, 126, 127, 128, 129, 130, 131, 132, 133, 134, 135, 136, 137, 138, 139, 140, 141, 142, 143, 144, 145, 146, 147, 148, 149, 150, 151, 152, 153, 154, 155, 156, 157, 158, 159, 160, 161, 162, 163, 164, 165, 166, 167, 168, 169, 170, 171] rfl (by decide +kernel)
set_option maxRecDepth 20000 in
theorem gX7_rowOf_X7_looked : GoodIn wsX7_rowOf (wsV RX7 434 RX7 yX7_looked wsX7_looked) := goodIn_app (goodIn_of _ (by decide +kernel)) ggX7_rowOf_X7_looked
set_option maxRecDepth 20000 in
theorem ggX7_rowOf_X7_blame : GoodIn wsX7_rowOf wsX7_blame := goodIn_r _ [18, 1, 19, 80, 81, 82, 83, 84, 85, 86, 87, 88, 89, 90, 91, 92, 93, 94, 95, 96, 97, 98, 99, 100, 101, 102, 103, 104, 105, 106, 107, 108, 109, 110, 111, 112, 113, 114, 115, 116, 117, 118, 119, 120, 121, 122, 123, 124, 125, 126, 127, 128, 129, 130, 131, 132, 133, 134, 135, 136, 137, 138, 139, 140, 141, 142, 143, 144, 145, 146, 147, 148, 149, 150, 151, 152, 153, 154, 155, 156, 157, 158, 159, 160, 161, 162, 163, 164, 165, 166, 167, 168, 169, 170, 171] rfl (by decide +kernel)
set_option maxRecDepth 20000 in
theorem gX7_rowOf_X7_blame : GoodIn wsX7_rowOf (wsV RX7 299 RX7 yX7_blame wsX7_blame) := goodIn_app (goodIn_of _ (by decide +kernel)) ggX7_rowOf_X7_blame
set_option maxRecDepth 20000 in
theorem ggX7_rowOf_X7_ahead : GoodIn wsX7_rowOf wsX7_ahead := goodIn_r _ [69, 70, 71, 72, 2, 3, 14, 73, 4, 74, 75, 8, 76, 77, 78, 79, 20, 21, 22, 23, 24, 25, 26, 27, 28, 29, 30, 31, 32, 33, 34, 35, 36, 37, 38, 39, 40, 41, 42, 43, 44, 45, 46, 47, 48, 80, 81, 82, 83, 84, 85, 86, 87, 88, 89, 90, 91, 92, 93, 94, 95, 96, 97, 98, 99, 100, 101, 102, 103, 104, 105, 106, 107, 108, 109, 110, 111, 112, 113, 114, 115, 116, 117, 118, 119, 120, 121, 122, 123, 124, 125, 126, 127, 128, 129, 130, 131, 132, 133, 134, 135, 136, 137, 138, 139, 140, 141, 142, 143, 144, 145, 146, 147, 148, 149, 150, 151, 152, 153, 154, 155, 156, 157, 158, 159, 160, 161, 162, 163, 164, 165, 166, 167, 168, 169, 170, 171] rfl (by decide +kernel)
set_option maxRecDepth 20000 in
theorem gX7_rowOf_X7_ahead : GoodIn wsX7_rowOf (wsV RX7 320 RX7 yX7_ahead wsX7_ahead) := goodIn_app (goodIn_of _ (by decide +kernel)) ggX7_rowOf_X7_ahead
set_option maxRecDepth 20000 in
theorem ggX7_rowOf_X7_lex : GoodIn wsX7_rowOf wsX7_lex := goodIn_r _ [13, 14, 15, 16, 17, 8, 18, 1, 19, 80, 81, 82, 83, 84, 85, 86, 87, 88, 89, 90, 91, 92, 93, 94, 95, 96, 97, 98, 99, 100, 101, 102, 103, 104, 105, 106, 107, 108, 109, 110, 111, 112, 113, 114, 115, 116, 117, 118, 119, 120, 121, 122, 123, 124, 125, 126, 127, 128, 129, 130, 131, 132, 133, 134, 135, 136, 137, 138, 139, 140, 141, 142, 143, 144, 145, 146, 147, 148, 149, 150, 151, 152, 153, 154, 155, 156, 157, 158, 159, 160, 161, 162, 163, 164, 165, 166, 167, 168, 169, 170, 171] rfl (by decide +kernel)
set_option maxRecDepth 20000 in
theorem gX7_rowOf_X7_lex : GoodIn wsX7_rowOf (wsV RX7 314 RX7 yX7_lex wsX7_lex) := goodIn_app (goodIn_of _ (by decide +kernel)) ggX7_rowOf_X7_lex
set_option maxRecDepth 20000 in
theorem ggX7_rowOf_X7_isOwn : GoodIn wsX7_rowOf wsX7_isOwn := goodIn_r _ [23, 24, 25, 26, 27, 28, 29, 30, 31, 32, 33, 34, 35, 36, 37, 38, 39, 40, 41, 42, 43, 44, 45, 46, 47, 48] rfl (by decide +kernel)
set_option maxRecDepth 20000 in
theorem gX7_rowOf_X7_isOwn : GoodIn wsX7_rowOf (wsV RX7 310 RX7 yX7_isOwn wsX7_isOwn) := goodIn_app (goodIn_of _ (by decide +kernel)) ggX7_rowOf_X7_isOwn
theorem dX7_rowOf_0 : decode cX7_rowOf 0 = .ok (.iconst 0, 1) := by decide +kernel
theorem dX7_rowOf_1 : decode cX7_rowOf 1 = .ok (.istore_n 2, 1) := by decide +kernel
theorem dX7_rowOf_2 : decode cX7_rowOf 2 = .ok (.iconst 1, 1) := by decide +kernel
theorem dX7_rowOf_3 : decode cX7_rowOf 3 = .ok (.istore_n 3, 1) := by decide +kernel
theorem dX7_rowOf_4 : decode cX7_rowOf 4 = .ok (.iload_n 3, 1) := by decide +kernel
theorem dX7_rowOf_5 : decode cX7_rowOf 5 = .ok (.ifCond .eq 94, 3) := by decide +kernel
theorem dX7_rowOf_8 : decode cX7_rowOf 8 = .ok (.aload_n 0, 1) := by decide +kernel
theorem dX7_rowOf_9 : decode cX7_rowOf 9 = .ok (.invokevirtual 434, 3) := by decide +kernel
theorem dX7_rowOf_12 : decode cX7_rowOf 12 = .ok (.istore 4, 2) := by decide +kernel
theorem dX7_rowOf_14 : decode cX7_rowOf 14 = .ok (.aload_n 0, 1) := by decide +kernel
theorem dX7_rowOf_15 : decode cX7_rowOf 15 = .ok (.getfield 36, 3) := by decide +kernel
theorem dX7_rowOf_18 : decode cX7_rowOf 18 = .ok (.ifCond .ne 24, 3) := by decide +kernel
theorem dX7_rowOf_21 : decode cX7_rowOf 21 = .ok (.iload_n 2, 1) := by decide +kernel
theorem dX7_rowOf_22 : decode cX7_rowOf 22 = .ok (.iload_n 1, 1) := by decide +kernel
theorem dX7_rowOf_23 : decode cX7_rowOf 23 = .ok (.ior, 1) := by decide +kernel
theorem dX7_rowOf_24 : decode cX7_rowOf 24 = .ok (.iload 4, 2) := by decide +kernel
theorem dX7_rowOf_26 : decode cX7_rowOf 26 = .ok (.ishr, 1) := by decide +kernel
theorem dX7_rowOf_27 : decode cX7_rowOf 27 = .ok (.iconst 1, 1) := by decide +kernel
theorem dX7_rowOf_28 : decode cX7_rowOf 28 = .ok (.iand, 1) := by decide +kernel
theorem dX7_rowOf_29 : decode cX7_rowOf 29 = .ok (.iconst 1, 1) := by decide +kernel
theorem dX7_rowOf_30 : decode cX7_rowOf 30 = .ok (.if_icmp .ne 12, 3) := by decide +kernel
theorem dX7_rowOf_33 : decode cX7_rowOf 33 = .ok (.aload_n 0, 1) := by decide +kernel
theorem dX7_rowOf_34 : decode cX7_rowOf 34 = .ok (.iconst 3, 1) := by decide +kernel
theorem dX7_rowOf_35 : decode cX7_rowOf 35 = .ok (.aload_n 0, 1) := by decide +kernel
theorem dX7_rowOf_36 : decode cX7_rowOf 36 = .ok (.getfield 23, 3) := by decide +kernel
theorem dX7_rowOf_39 : decode cX7_rowOf 39 = .ok (.invokevirtual 299, 3) := by decide +kernel
theorem dX7_rowOf_42 : decode cX7_rowOf 42 = .ok (.aload_n 0, 1) := by decide +kernel
theorem dX7_rowOf_43 : decode cX7_rowOf 43 = .ok (.getfield 36, 3) := by decide +kernel
theorem dX7_rowOf_46 : decode cX7_rowOf 46 = .ok (.ifCond .ne 14, 3) := by decide +kernel
theorem dX7_rowOf_49 : decode cX7_rowOf 49 = .ok (.iload_n 2, 1) := by decide +kernel
theorem dX7_rowOf_50 : decode cX7_rowOf 50 = .ok (.iconst 1, 1) := by decide +kernel
theorem dX7_rowOf_51 : decode cX7_rowOf 51 = .ok (.iload 4, 2) := by decide +kernel
theorem dX7_rowOf_53 : decode cX7_rowOf 53 = .ok (.ishl, 1) := by decide +kernel
theorem dX7_rowOf_54 : decode cX7_rowOf 54 = .ok (.ior, 1) := by decide +kernel
theorem dX7_rowOf_55 : decode cX7_rowOf 55 = .ok (.istore_n 2, 1) := by decide +kernel
theorem dX7_rowOf_56 : decode cX7_rowOf 56 = .ok (.aload_n 0, 1) := by decide +kernel
theorem dX7_rowOf_57 : decode cX7_rowOf 57 = .ok (.invokevirtual 320, 3) := by decide +kernel
theorem dX7_rowOf_60 : decode cX7_rowOf 60 = .ok (.aload_n 0, 1) := by decide +kernel
theorem dX7_rowOf_61 : decode cX7_rowOf 61 = .ok (.invokevirtual 314, 3) := by decide +kernel
theorem dX7_rowOf_64 : decode cX7_rowOf 64 = .ok (.aload_n 0, 1) := by decide +kernel
theorem dX7_rowOf_65 : decode cX7_rowOf 65 = .ok (.getfield 36, 3) := by decide +kernel
theorem dX7_rowOf_68 : decode cX7_rowOf 68 = .ok (.ifCond .ne 26, 3) := by decide +kernel
theorem dX7_rowOf_71 : decode cX7_rowOf 71 = .ok (.aload_n 0, 1) := by decide +kernel
theorem dX7_rowOf_72 : decode cX7_rowOf 72 = .ok (.getfield 20, 3) := by decide +kernel
theorem dX7_rowOf_75 : decode cX7_rowOf 75 = .ok (.iconst 1, 1) := by decide +kernel
theorem dX7_rowOf_76 : decode cX7_rowOf 76 = .ok (.if_icmp .ne 18, 3) := by decide +kernel
theorem dX7_rowOf_79 : decode cX7_rowOf 79 = .ok (.aload_n 0, 1) := by decide +kernel
theorem dX7_rowOf_80 : decode cX7_rowOf 80 = .ok (.aload_n 0, 1) := by decide +kernel
theorem dX7_rowOf_81 : decode cX7_rowOf 81 = .ok (.getfield 32, 3) := by decide +kernel
theorem dX7_rowOf_84 : decode cX7_rowOf 84 = .ok (.invokevirtual 310, 3) := by decide +kernel
theorem dX7_rowOf_87 : decode cX7_rowOf 87 = .ok (.ifCond .ne 7, 3) := by decide +kernel
theorem dX7_rowOf_90 : decode cX7_rowOf 90 = .ok (.iconst 1, 1) := by decide +kernel
theorem dX7_rowOf_91 : decode cX7_rowOf 91 = .ok (.goto 4, 3) := by decide +kernel
theorem dX7_rowOf_94 : decode cX7_rowOf 94 = .ok (.iconst 0, 1) := by decide +kernel
theorem dX7_rowOf_95 : decode cX7_rowOf 95 = .ok (.istore_n 3, 1) := by decide +kernel
theorem dX7_rowOf_96 : decode cX7_rowOf 96 = .ok (.goto (-92), 3) := by decide +kernel
theorem dX7_rowOf_99 : decode cX7_rowOf 99 = .ok (.iload_n 2, 1) := by decide +kernel
theorem dX7_rowOf_100 : decode cX7_rowOf 100 = .ok (.ireturn, 1) := by decide +kernel
set_option maxRecDepth 20000 in
theorem ggX7_wishing_X7_counts : GoodIn wsX7_wishing wsX7_counts := goodIn_r _ [17, 8, 18, 19, 20, 21, 16, 22, 23, 24, 25, 26, 27, 28, 29, 30, 31, 32, 33, 34, 35, 36, 37, 38, 39, 40, 41, 42, 43, 44, 45, 46, 47, 48, 49, 4, 6, 11, 12, 50, 51, 52, 53, 54, 55, 56, 57, 58, 59, 60, 61, 62, 63, 64, 65, 111, 112, 113, 114, 115, 116, 117, 118, 119, 120, 121, 122, 123, 124, 125, 126, 127, 128, 129, 130, 131, 132, 133, 134, 135, 136, 137, 138, 139, 140, 141, 142, 143, 144, 145, 146, 147, 148, 149, 150, 151, 152, 153, 154, 155, 156, 157, 158, 159, 160, 161, 162, 163, 164, 165, 166, 167, 168, 169, 170, 171, 172, 173, 174, 175, 176, 177, 178, 179, 180, 181, 182, 183, 184, 185, 186, 187, 188, 189, 190, 191, 192, 193, 194, 195, 196, 197, 198, 199, 200, 201, 202] rfl (by decide +kernel)
set_option maxRecDepth 20000 in
theorem gX7_wishing_X7_counts : GoodIn wsX7_wishing (wsV RX7 419 RX7 yX7_counts wsX7_counts) := goodIn_app (goodIn_of _ (by decide +kernel)) ggX7_wishing_X7_counts
set_option maxRecDepth 20000 in
theorem ggX7_wishing_X7_fresh : GoodIn wsX7_wishing wsX7_fresh := goodIn_r _ [69, 8, 31, 34, 18, 70, 71, 72, 16, 73, 32, 19, 20, 21, 22, 23, 41, 42, 43, 44, 45, 46, 47, 48, 49, 4, 6, 11, 12, 50, 51, 52, 53, 54, 55, 56, 57, 58, 59, 60, 61, 62, 63, 64, 65, 74, 75, 76, 77, 2, 78, 79, 80, 81, 82, 1, 83, 84, 85, 86, 87, 3, 24, 25, 26, 27, 28, 29, 30, 33, 35, 36, 37, 38, 39, 40, 111, 112, 113, 114, 115, 116, 117, 118, 119, 120, 121, 122, 123, 124, 125, 126, 127, 128, 129, 130, 131, 132, 133, 134, 135, 136, 137, 138, 139, 140, 141, 142, 143, 144, 145, 146, 147, 148, 149, 150, 151, 152, 153, 154, 155, 156, 157, 158, 159, 160, 161, 162, 163, 164, 165, 166, 167, 168, 169, 170, 171, 172, 173, 174, 175, 176, 177, 178, 179, 180, 181, 182, 183, 184, 185, 186, 187, 188, 189, 190, 191, 192, 193, 194, 195, 196, 197, 198, 199, 200, 201, 202] rfl (by decide +kernel)
set_option maxRecDepth 20000 in
theorem gX7_wishing_X7_fresh : GoodIn wsX7_wishing (wsV RX7 423 RX7 yX7_fresh wsX7_fresh) := goodIn_app (goodIn_of _ (by decide +kernel)) ggX7_wishing_X7_fresh
set_option maxRecDepth 20000 in
theorem ggX7_wishing_X7_must_ : GoodIn wsX7_wishing wsX7_must_ := goodIn_r _ [91, 8, 18, 70, 71, 72, 16, 73, 32, 19, 20, 21, 22, 23, 92, 93, 94, 95, 31, 34, 24, 25, 26, 27, 28, 29, 30, 33, 35, 36, 37, 38, 39, 40, 41, 42, 43, 44, 45, 46, 47, 48, 49, 4, 6, 11, 12, 50, 51, 52, 53, 54, 55, 56, 57, 58, 59, 60, 61, 62, 63, 64, 65, 111, 112, 113, 114, 115, 116, 117, 118, 119, 120, 121, 122, 123, 124, 125, 126, 127, 128, 129, 130, 131, 132, 133, 134, 135, 136, 137, 138, 139, 140, 141, 142, 143, 144, 145, 146, 147, 148, 149, 150, 151, 152, 153, 154, 155, 156, 157, 158, 159, 160, 161, 162, 163, 164, 165, 166, 167, 168, 169, 170, 171, 172, 173, 174, 175, 176, 177, 178, 179, 180, 181, 182, 183, 184, 185, 186, 187, 188, 189, 190, 191, 192, 193, 194, 195, 196, 197, 198, 199, 200, 201, 202] rfl (by decide +kernel)
set_option maxRecDepth 20000 in
theorem gX7_wishing_X7_must_ : GoodIn wsX7_wishing (wsV RX7 427 RX7 yX7_must_ wsX7_must_) := goodIn_app (goodIn_of _ (by decide +kernel)) ggX7_wishing_X7_must_
set_option maxRecDepth 20000 in
theorem ggX7_wishing_X7_number : GoodIn wsX7_wishing wsX7_number := goodIn_r _ [99, 8, 31, 18, 33, 70, 71, 72, 16, 73, 32, 19, 20, 21, 22, 23, 100, 101, 102, 24, 25, 26, 27, 28, 29, 30, 34, 35, 36, 37, 38, 39, 40, 41, 42, 43, 44, 45, 46, 47, 48, 49, 4, 6, 11, 12, 50, 51, 52, 53, 54, 55, 56, 57, 58, 59, 60, 61, 62, 63, 64, 65, 111, 112, 113, 114, 115, 116, 117, 118, 119, 120, 121, 122, 123, 124, 125, 126, 127, 128, 129, 130, 131, 132, 133, 134, 135, 136, 137, 138, 139, 140, 141, 142, 143, 144, 145, 146, 147, 148, 149, 150, 151, 152, 153, 154, 155, 156, 157, 158, 159, 160, 161, 162, 163, 164, 165, 166, 167, 168, 169, 170, 171, 172, 173, 174, 175, 176, 177, 178, 179, 180, 181, 182, 183, 184, 185, 186, 187, 188, 189, 190, 191, 192, 193, 194, 195, 196, 197, 198, 199, 200, 201, 202] rfl (by decide +kernel)
set_option maxRecDepth 20000 in
theorem gX7_wishing_X7_number : GoodIn wsX7_wishing (wsV RX7 431 RX7 yX7_number wsX7_number) := goodIn_app (goodIn_of _ (by decide +kernel)) ggX7_wishing_X7_number
set_option maxRecDepth 20000 in
theorem ggX7_wishing_X7_looked : GoodIn wsX7_wishing wsX7_looked := goodIn_r _ [106, 8, 31, 34, 18, 70, 71, 72, 16, 73, 32, 19, 20, 21, 22, 23, 41, 42, 43, 44, 45, 46, 47, 48, 49, 4, 6, 11, 12, 50, 51, 52, 53, 54, 55, 56, 57, 58, 59, 60, 61, 62, 63, 64, 65, 74, 75, 76, 77, 2, 78, 79, 80, 81, 82, 1, 83, 84, 85, 86, 87, 3, 111, 112, 113, 114, 115, 116, 117, 118, 119, 120, 121, 122, 123, 124, 125, 126, 127, 128, 129, 130, 131, 132, 133, 134, 135, 136, 137, 138, 139, 140, 141, 142, 143, 144, 145, 146, 147, 148, 149, 150, 151, 152, 153, 154, 155, 156, 157, 158, 159, 160, 161, 162, 163, 164, 165, 166, 167, 168, 169, 170, 171, 172, 173, 174, 175, 176, 177, 178, 179, 180, 181, 182, 183, 184, 185, 186, 187, 188, 189, 190, 191, 192, 193, 194, 195, 196, 197, 198, 199, 200, 201, 202] rfl (by decide +kernel)
set_option maxRecDepth 20000 in
theorem gX7_wishing_X7_looked : GoodIn wsX7_wishing (wsV RX7 434 RX7 yX7_looked wsX7_looked) := goodIn_app (goodIn_of _ (by decide +kernel)) ggX7_wishing_X7_looked
set_option maxRecDepth 20000 in
theorem ggX7_wishing_X7_ahead : GoodIn wsX7_wishing wsX7_ahead := goodIn_r _ [27, 28, 29, 30, 18, 31, 32, 33, 34, 35, 36, 16, 37, 38, 39, 40, 41, 42, 43, 44, 45, 46, 47, 48, 49, 4, 6, 11, 12, 50, 51, 52, 53, 54, 55, 56, 57, 58, 59, 60, 61, 62, 63, 64, 65, 111, 112, 113, 114, 115, 116, 117, 118, 119, 120, 121, 122, 123, 124, 125, 126, 127, 128, 129, 130, 131, 132, 133, 134, 135, 136, 137, 138, 139, 140, 141, 142, 143, 144, 145, 146, 147, 148, 149, 150, 151, 152, 153, 154, 155, 156, 157, 158, 159, 160, 161, 162, 163, 164, 165, 166, 167, 168, 169, 170, 171, 172, 173, 174, 175, 176, 177, 178, 179, 180, 181, 182, 183, 184, 185, 186, 187, 188, 189, 190, 191, 192, 193, 194, 195, 196, 197, 198, 199, 200, 201, 202] rfl (by decide +kernel)
set_option maxRecDepth 20000 in
theorem gX7_wishing_X7_ahead : GoodIn wsX7_wishing (wsV RX7 320 RX7 yX7_ahead wsX7_ahead) := goodIn_app (goodIn_of _ (by decide +kernel)) ggX7_wishing_X7_ahead
set_option maxRecDepth 20000 in
theorem ggX7_wishing_X7_lex : GoodIn wsX7_wishing wsX7_lex := goodIn_r _ [73, 32, 19, 20, 21, 16, 22, 8, 23, 111, 112, 113, 114, 115, 116, 117, 118, 119, 120, 121, 122, 123, 124, 125, 126, 127, 128, 129, 130, 131, 132, 133, 134, 135, 136, 137, 138, 139, 140, 141, 142, 143, 144, 145, 146, 147, 148, 149, 150, 151, 152, 153, 154, 155, 156, 157, 158, 159, 160, 161, 162, 163, 164, 165, 166, 167, 168, 169, 170, 171, 172, 173, 174, 175, 176, 177, 178, 179, 180, 181, 182, 183, 184, 185, 186, 187, 188, 189, 190, 191, 192, 193, 194, 195, 196, 197, 198, 199, 200, 201, 202] rfl (by decide +kernel)
set_option maxRecDepth 20000 in
theorem gX7_wishing_X7_lex : GoodIn wsX7_wishing (wsV RX7 314 RX7 yX7_lex wsX7_lex) := goodIn_app (goodIn_of _ (by decide +kernel)) ggX7_wishing_X7_lex
set_option maxRecDepth 20000 in
theorem ggX7_wishing_X7_isWord : GoodIn wsX7_wishing wsX7_isWord := goodIn_r _ [95, 31, 34, 111, 112, 113, 114, 115, 116, 117, 118, 119, 120, 121, 122, 123, 124, 125, 126, 127, 128, 129, 130, 131, 132, 133, 134, 135, 136, 137, 138, 139, 140, 141, 142, 143, 144, 145, 146, 147, 148, 149, 150, 151, 152, 153, 154, 155, 156, 157, 158, 159, 160, 161, 162, 163, 164, 165, 166, 167, 168, 169, 170, 171, 172, 173, 174, 175, 176, 177, 178, 179, 180, 181, 182, 183, 184, 185, 186, 187, 188, 189, 190, 191, 192, 193, 194, 195, 196, 197, 198, 199, 200, 201, 202] rfl (by decide +kernel)
set_option maxRecDepth 20000 in
theorem gX7_wishing_X7_isWord : GoodIn wsX7_wishing (wsV RX7 397 RX7 yX7_isWord wsX7_isWord) := goodIn_app (goodIn_of _ (by decide +kernel)) ggX7_wishing_X7_isWord
set_option maxRecDepth 20000 in
theorem ggX7_wishing_X7_rowOf : GoodIn wsX7_wishing wsX7_rowOf := goodIn_r _ [110, 8, 18, 31, 34, 103, 104, 105, 16, 106, 70, 71, 72, 73, 32, 19, 20, 21, 22, 23, 41, 42, 43, 44, 45, 46, 47, 48, 49, 4, 6, 11, 12, 50, 51, 52, 53, 54, 55, 56, 57, 58, 59, 60, 61, 62, 63, 64, 65, 74, 75, 76, 77, 2, 78, 79, 80, 81, 82, 1, 83, 84, 85, 86, 87, 3, 24, 25, 26, 27, 28, 29, 30, 33, 35, 36, 37, 38, 39, 40, 111, 112, 113, 114, 115, 116, 117, 118, 119, 120, 121, 122, 123, 124, 125, 126, 127, 128, 129, 130, 131, 132, 133, 134, 135, 136, 137, 138, 139, 140, 141, 142, 143, 144, 145, 146, 147, 148, 149, 150, 151, 152, 153, 154, 155, 156, 157, 158, 159, 160, 161, 162, 163, 164, 165, 166, 167, 168, 169, 170, 171, 172, 173, 174, 175, 176, 177, 178, 179, 180, 181, 182, 183, 184, 185, 186, 187, 188, 189, 190, 191, 192, 193, 194, 195, 196, 197, 198, 199, 200, 201, 202] rfl (by decide +kernel)
set_option maxRecDepth 20000 in
theorem gX7_wishing_X7_rowOf : GoodIn wsX7_wishing (wsV RX7 438 RX7 yX7_rowOf wsX7_rowOf) := goodIn_app (goodIn_of _ (by decide +kernel)) ggX7_wishing_X7_rowOf
theorem dX7_wishing_0 : decode cX7_wishing 0 = .ok (.aload_n 0, 1) := by decide +kernel
theorem dX7_wishing_1 : decode cX7_wishing 1 = .ok (.aload_n 0, 1) := by decide +kernel
theorem dX7_wishing_2 : decode cX7_wishing 2 = .ok (.getfield 66, 3) := by decide +kernel
theorem dX7_wishing_5 : decode cX7_wishing 5 = .ok (.aload_n 0, 1) := by decide +kernel
theorem dX7_wishing_6 : decode cX7_wishing 6 = .ok (.getfield 124, 3) := by decide +kernel
theorem dX7_wishing_9 : decode cX7_wishing 9 = .ok (.iaload, 1) := by decide +kernel
theorem dX7_wishing_10 : decode cX7_wishing 10 = .ok (.bipush 12, 2) := by decide +kernel
theorem dX7_wishing_12 : decode cX7_wishing 12 = .ok (.if_icmp .ne 7, 3) := by decide +kernel
theorem dX7_wishing_15 : decode cX7_wishing 15 = .ok (.iconst 1, 1) := by decide +kernel
theorem dX7_wishing_16 : decode cX7_wishing 16 = .ok (.goto 4, 3) := by decide +kernel
theorem dX7_wishing_19 : decode cX7_wishing 19 = .ok (.iconst 0, 1) := by decide +kernel
theorem dX7_wishing_20 : decode cX7_wishing 20 = .ok (.invokevirtual 419, 3) := by decide +kernel
theorem dX7_wishing_23 : decode cX7_wishing 23 = .ok (.ifCond .ne 4, 3) := by decide +kernel
theorem dX7_wishing_26 : decode cX7_wishing 26 = .ok (.return_, 1) := by decide +kernel
theorem dX7_wishing_27 : decode cX7_wishing 27 = .ok (.bipush 12, 2) := by decide +kernel
theorem dX7_wishing_29 : decode cX7_wishing 29 = .ok (.aload_n 0, 1) := by decide +kernel
theorem dX7_wishing_30 : decode cX7_wishing 30 = .ok (.getfield 124, 3) := by decide +kernel
theorem dX7_wishing_33 : decode cX7_wishing 33 = .ok (.imul, 1) := by decide +kernel
theorem dX7_wishing_34 : decode cX7_wishing 34 = .ok (.aload_n 0, 1) := by decide +kernel
theorem dX7_wishing_35 : decode cX7_wishing 35 = .ok (.getfield 66, 3) := by decide +kernel
theorem dX7_wishing_38 : decode cX7_wishing 38 = .ok (.aload_n 0, 1) := by decide +kernel
theorem dX7_wishing_39 : decode cX7_wishing 39 = .ok (.getfield 124, 3) := by decide +kernel
theorem dX7_wishing_42 : decode cX7_wishing 42 = .ok (.iaload, 1) := by decide +kernel
theorem dX7_wishing_43 : decode cX7_wishing 43 = .ok (.iadd, 1) := by decide +kernel
theorem dX7_wishing_44 : decode cX7_wishing 44 = .ok (.istore_n 1, 1) := by decide +kernel
theorem dX7_wishing_45 : decode cX7_wishing 45 = .ok (.aload_n 0, 1) := by decide +kernel
theorem dX7_wishing_46 : decode cX7_wishing 46 = .ok (.getfield 118, 3) := by decide +kernel
theorem dX7_wishing_49 : decode cX7_wishing 49 = .ok (.iload_n 1, 1) := by decide +kernel
theorem dX7_wishing_50 : decode cX7_wishing 50 = .ok (.aload_n 0, 1) := by decide +kernel
theorem dX7_wishing_51 : decode cX7_wishing 51 = .ok (.invokevirtual 423, 3) := by decide +kernel
theorem dX7_wishing_54 : decode cX7_wishing 54 = .ok (.lastore, 1) := by decide +kernel
theorem dX7_wishing_55 : decode cX7_wishing 55 = .ok (.aload_n 0, 1) := by decide +kernel
theorem dX7_wishing_56 : decode cX7_wishing 56 = .ok (.ldc2_w 333, 3) := by decide +kernel
theorem dX7_wishing_59 : decode cX7_wishing 59 = .ok (.invokevirtual 427, 3) := by decide +kernel
theorem dX7_wishing_62 : decode cX7_wishing 62 = .ok (.aload_n 0, 1) := by decide +kernel
theorem dX7_wishing_63 : decode cX7_wishing 63 = .ok (.getfield 69, 3) := by decide +kernel
theorem dX7_wishing_66 : decode cX7_wishing 66 = .ok (.iload_n 1, 1) := by decide +kernel
theorem dX7_wishing_67 : decode cX7_wishing 67 = .ok (.aload_n 0, 1) := by decide +kernel
theorem dX7_wishing_68 : decode cX7_wishing 68 = .ok (.iconst 0, 1) := by decide +kernel
theorem dX7_wishing_69 : decode cX7_wishing 69 = .ok (.bipush 9, 2) := by decide +kernel
theorem dX7_wishing_71 : decode cX7_wishing 71 = .ok (.invokevirtual 431, 3) := by decide +kernel
theorem dX7_wishing_74 : decode cX7_wishing 74 = .ok (.iastore, 1) := by decide +kernel
theorem dX7_wishing_75 : decode cX7_wishing 75 = .ok (.aload_n 0, 1) := by decide +kernel
theorem dX7_wishing_76 : decode cX7_wishing 76 = .ok (.ldc2_w 335, 3) := by decide +kernel
theorem dX7_wishing_79 : decode cX7_wishing 79 = .ok (.invokevirtual 427, 3) := by decide +kernel
theorem dX7_wishing_82 : decode cX7_wishing 82 = .ok (.aload_n 0, 1) := by decide +kernel
theorem dX7_wishing_83 : decode cX7_wishing 83 = .ok (.getfield 72, 3) := by decide +kernel
theorem dX7_wishing_86 : decode cX7_wishing 86 = .ok (.iload_n 1, 1) := by decide +kernel
theorem dX7_wishing_87 : decode cX7_wishing 87 = .ok (.aload_n 0, 1) := by decide +kernel
theorem dX7_wishing_88 : decode cX7_wishing 88 = .ok (.invokevirtual 434, 3) := by decide +kernel
theorem dX7_wishing_91 : decode cX7_wishing 91 = .ok (.iastore, 1) := by decide +kernel
theorem dX7_wishing_92 : decode cX7_wishing 92 = .ok (.aload_n 0, 1) := by decide +kernel
theorem dX7_wishing_93 : decode cX7_wishing 93 = .ok (.getfield 36, 3) := by decide +kernel
theorem dX7_wishing_96 : decode cX7_wishing 96 = .ok (.ifCond .ne 7, 3) := by decide +kernel
theorem dX7_wishing_99 : decode cX7_wishing 99 = .ok (.aload_n 0, 1) := by decide +kernel
theorem dX7_wishing_100 : decode cX7_wishing 100 = .ok (.invokevirtual 320, 3) := by decide +kernel
theorem dX7_wishing_103 : decode cX7_wishing 103 = .ok (.aload_n 0, 1) := by decide +kernel
theorem dX7_wishing_104 : decode cX7_wishing 104 = .ok (.getfield 75, 3) := by decide +kernel
theorem dX7_wishing_107 : decode cX7_wishing 107 = .ok (.iload_n 1, 1) := by decide +kernel
theorem dX7_wishing_108 : decode cX7_wishing 108 = .ok (.iconst 0, 1) := by decide +kernel
theorem dX7_wishing_109 : decode cX7_wishing 109 = .ok (.iastore, 1) := by decide +kernel
theorem dX7_wishing_110 : decode cX7_wishing 110 = .ok (.aload_n 0, 1) := by decide +kernel
theorem dX7_wishing_111 : decode cX7_wishing 111 = .ok (.getfield 78, 3) := by decide +kernel
theorem dX7_wishing_114 : decode cX7_wishing 114 = .ok (.iload_n 1, 1) := by decide +kernel
theorem dX7_wishing_115 : decode cX7_wishing 115 = .ok (.iconst 0, 1) := by decide +kernel
theorem dX7_wishing_116 : decode cX7_wishing 116 = .ok (.iastore, 1) := by decide +kernel
theorem dX7_wishing_117 : decode cX7_wishing 117 = .ok (.aload_n 0, 1) := by decide +kernel
theorem dX7_wishing_118 : decode cX7_wishing 118 = .ok (.invokevirtual 314, 3) := by decide +kernel
theorem dX7_wishing_121 : decode cX7_wishing 121 = .ok (.aload_n 0, 1) := by decide +kernel
theorem dX7_wishing_122 : decode cX7_wishing 122 = .ok (.getfield 36, 3) := by decide +kernel
theorem dX7_wishing_125 : decode cX7_wishing 125 = .ok (.ifCond .le 4, 3) := by decide +kernel
theorem dX7_wishing_128 : decode cX7_wishing 128 = .ok (.return_, 1) := by decide +kernel
theorem dX7_wishing_129 : decode cX7_wishing 129 = .ok (.aload_n 0, 1) := by decide +kernel
theorem dX7_wishing_130 : decode cX7_wishing 130 = .ok (.ldc2_w 337, 3) := by decide +kernel
theorem dX7_wishing_133 : decode cX7_wishing 133 = .ok (.invokevirtual 397, 3) := by decide +kernel
theorem dX7_wishing_136 : decode cX7_wishing 136 = .ok (.ifCond .eq 18, 3) := by decide +kernel
theorem dX7_wishing_139 : decode cX7_wishing 139 = .ok (.aload_n 0, 1) := by decide +kernel
theorem dX7_wishing_140 : decode cX7_wishing 140 = .ok (.invokevirtual 320, 3) := by decide +kernel
theorem dX7_wishing_143 : decode cX7_wishing 143 = .ok (.aload_n 0, 1) := by decide +kernel
theorem dX7_wishing_144 : decode cX7_wishing 144 = .ok (.getfield 75, 3) := by decide +kernel
theorem dX7_wishing_147 : decode cX7_wishing 147 = .ok (.iload_n 1, 1) := by decide +kernel
theorem dX7_wishing_148 : decode cX7_wishing 148 = .ok (.aload_n 0, 1) := by decide +kernel
theorem dX7_wishing_149 : decode cX7_wishing 149 = .ok (.iconst 0, 1) := by decide +kernel
theorem dX7_wishing_150 : decode cX7_wishing 150 = .ok (.invokevirtual 438, 3) := by decide +kernel
theorem dX7_wishing_153 : decode cX7_wishing 153 = .ok (.iastore, 1) := by decide +kernel
theorem dX7_wishing_154 : decode cX7_wishing 154 = .ok (.aload_n 0, 1) := by decide +kernel
theorem dX7_wishing_155 : decode cX7_wishing 155 = .ok (.invokevirtual 314, 3) := by decide +kernel
theorem dX7_wishing_158 : decode cX7_wishing 158 = .ok (.aload_n 0, 1) := by decide +kernel
theorem dX7_wishing_159 : decode cX7_wishing 159 = .ok (.getfield 36, 3) := by decide +kernel
theorem dX7_wishing_162 : decode cX7_wishing 162 = .ok (.ifCond .le 4, 3) := by decide +kernel
theorem dX7_wishing_165 : decode cX7_wishing 165 = .ok (.return_, 1) := by decide +kernel
theorem dX7_wishing_166 : decode cX7_wishing 166 = .ok (.aload_n 0, 1) := by decide +kernel
theorem dX7_wishing_167 : decode cX7_wishing 167 = .ok (.ldc2_w 339, 3) := by decide +kernel
theorem dX7_wishing_170 : decode cX7_wishing 170 = .ok (.invokevirtual 397, 3) := by decide +kernel
theorem dX7_wishing_173 : decode cX7_wishing 173 = .ok (.ifCond .eq 25, 3) := by decide +kernel
theorem dX7_wishing_176 : decode cX7_wishing 176 = .ok (.aload_n 0, 1) := by decide +kernel
theorem dX7_wishing_177 : decode cX7_wishing 177 = .ok (.invokevirtual 320, 3) := by decide +kernel
theorem dX7_wishing_180 : decode cX7_wishing 180 = .ok (.aload_n 0, 1) := by decide +kernel
theorem dX7_wishing_181 : decode cX7_wishing 181 = .ok (.getfield 78, 3) := by decide +kernel
theorem dX7_wishing_184 : decode cX7_wishing 184 = .ok (.iload_n 1, 1) := by decide +kernel
theorem dX7_wishing_185 : decode cX7_wishing 185 = .ok (.aload_n 0, 1) := by decide +kernel
theorem dX7_wishing_186 : decode cX7_wishing 186 = .ok (.iconst 1, 1) := by decide +kernel
theorem dX7_wishing_187 : decode cX7_wishing 187 = .ok (.aload_n 0, 1) := by decide +kernel
theorem dX7_wishing_188 : decode cX7_wishing 188 = .ok (.getfield 72, 3) := by decide +kernel
theorem dX7_wishing_191 : decode cX7_wishing 191 = .ok (.iload_n 1, 1) := by decide +kernel
theorem dX7_wishing_192 : decode cX7_wishing 192 = .ok (.iaload, 1) := by decide +kernel
theorem dX7_wishing_193 : decode cX7_wishing 193 = .ok (.ishl, 1) := by decide +kernel
theorem dX7_wishing_194 : decode cX7_wishing 194 = .ok (.invokevirtual 438, 3) := by decide +kernel
theorem dX7_wishing_197 : decode cX7_wishing 197 = .ok (.iastore, 1) := by decide +kernel
theorem dX7_wishing_198 : decode cX7_wishing 198 = .ok (.aload_n 0, 1) := by decide +kernel
theorem dX7_wishing_199 : decode cX7_wishing 199 = .ok (.getfield 36, 3) := by decide +kernel
theorem dX7_wishing_202 : decode cX7_wishing 202 = .ok (.ifCond .ne 16, 3) := by decide +kernel
theorem dX7_wishing_205 : decode cX7_wishing 205 = .ok (.aload_n 0, 1) := by decide +kernel
theorem dX7_wishing_206 : decode cX7_wishing 206 = .ok (.getfield 66, 3) := by decide +kernel
theorem dX7_wishing_209 : decode cX7_wishing 209 = .ok (.aload_n 0, 1) := by decide +kernel
theorem dX7_wishing_210 : decode cX7_wishing 210 = .ok (.getfield 124, 3) := by decide +kernel
theorem dX7_wishing_213 : decode cX7_wishing 213 = .ok (.dup2, 1) := by decide +kernel
theorem dX7_wishing_214 : decode cX7_wishing 214 = .ok (.iaload, 1) := by decide +kernel
theorem dX7_wishing_215 : decode cX7_wishing 215 = .ok (.iconst 1, 1) := by decide +kernel
theorem dX7_wishing_216 : decode cX7_wishing 216 = .ok (.iadd, 1) := by decide +kernel
theorem dX7_wishing_217 : decode cX7_wishing 217 = .ok (.iastore, 1) := by decide +kernel
theorem dX7_wishing_218 : decode cX7_wishing 218 = .ok (.return_, 1) := by decide +kernel
set_option maxRecDepth 20000 in
theorem ggX7_firsting_X7_counts : GoodIn wsX7_firsting wsX7_counts := goodIn_r _ [9, 1, 4, 10, 11, 12, 8, 13, 14, 15, 16, 17, 18, 19, 20, 21, 22, 23, 24, 25, 26, 27, 28, 29, 30, 31, 32, 33, 34, 35, 36, 37, 38, 39, 40, 41, 42, 43, 44, 45, 46, 47, 48, 49, 50, 51, 52, 53, 54, 55, 56, 57, 58, 59, 60, 85, 86, 87, 88, 89, 90, 91, 92, 93, 94, 95, 96, 97, 98, 99, 100, 101, 102, 103, 104, 105, 106, 107, 108, 109, 110, 111, 112, 113, 114, 115, 116, 117, 118, 119, 120, 121, 122, 123, 124, 125, 126, 127, 128, 129, 130, 131, 132, 133, 134, 135, 136, 137, 138, 139, 140, 141, 142, 143, 144, 145, 146, 147, 148, 149, 150, 151, 152, 153, 154, 155, 156, 157, 158, 159, 160, 161, 162, 163, 164, 165, 166, 167, 168, 169, 170, 171, 172, 173, 174, 175, 176] rfl (by decide +kernel)
set_option maxRecDepth 20000 in
theorem gX7_firsting_X7_counts : GoodIn wsX7_firsting (wsV RX7 419 RX7 yX7_counts wsX7_counts) := goodIn_app (goodIn_of _ (by decide +kernel)) ggX7_firsting_X7_counts
set_option maxRecDepth 20000 in
theorem ggX7_firsting_X7_looked : GoodIn wsX7_firsting wsX7_looked := goodIn_r _ [64, 1, 22, 25, 4, 65, 66, 67, 8, 68, 23, 10, 11, 12, 13, 14, 32, 33, 34, 35, 36, 37, 38, 39, 40, 41, 42, 43, 44, 45, 46, 47, 48, 49, 50, 51, 52, 53, 54, 55, 56, 57, 58, 59, 60, 69, 70, 71, 72, 3, 73, 74, 75, 76, 77, 78, 79, 80, 81, 82, 83, 84, 85, 86, 87, 88, 89, 90, 91, 92, 93, 94, 95, 96, 97, 98, 99, 100, 101, 102, 103, 104, 105, 106, 107, 108, 109, 110, 111, 112, 113, 114, 115, 116, 117, 118, 119, 120, 121, 122, 123, 124, 125, 126, 127, 128, 129, 130, 131, 132, 133, 134, 135, 136, 137, 138, 139, 140, 141, 142, 143, 144, 145, 146, 147, 148, 149, 150, 151, 152, 153, 154, 155, 156, 157, 158, 159, 160, 161, 162, 163, 164, 165, 166, 167, 168, 169, 170, 171, 172, 173, 174, 175, 176] rfl (by decide +kernel)
set_option maxRecDepth 20000 in
theorem gX7_firsting_X7_looked : GoodIn wsX7_firsting (wsV RX7 434 RX7 yX7_looked wsX7_looked) := goodIn_app (goodIn_of _ (by decide +kernel)) ggX7_firsting_X7_looked
set_option maxRecDepth 20000 in
theorem ggX7_firsting_X7_blame : GoodIn wsX7_firsting wsX7_blame := goodIn_r _ [13, 1, 14, 85, 86, 87, 88, 89, 90, 91, 92, 93, 94, 95, 96, 97, 98, 99, 100, 101, 102, 103, 104, 105, 106, 107, 108, 109, 110, 111, 112, 113, 114, 115, 116, 117, 118, 119, 120, 121, 122, 123, 124, 125, 126, 127, 128, 129, 130, 131, 132, 133, 134, 135, 136, 137, 138, 139, 140, 141, 142, 143, 144, 145, 146, 147, 148, 149, 150, 151, 152, 153, 154, 155, 156, 157, 158, 159, 160, 161, 162, 163, 164, 165, 166, 167, 168, 169, 170, 171, 172, 173, 174, 175, 176] rfl (by decide +kernel)
set_option maxRecDepth 20000 in
theorem gX7_firsting_X7_blame : GoodIn wsX7_firsting (wsV RX7 299 RX7 yX7_blame wsX7_blame) := goodIn_app (goodIn_of _ (by decide +kernel)) ggX7_firsting_X7_blame
set_option maxRecDepth 20000 in
theorem ggX7_firsting_X7_ahead : GoodIn wsX7_firsting wsX7_ahead := goodIn_r _ [18, 19, 20, 21, 4, 22, 23, 24, 25, 26, 27, 8, 28, 29, 30, 31, 32, 33, 34, 35, 36, 37, 38, 39, 40, 41, 42, 43, 44, 45, 46, 47, 48, 49, 50, 51, 52, 53, 54, 55, 56, 57, 58, 59, 60, 85, 86, 87, 88, 89, 90, 91, 92, 93, 94, 95, 96, 97, 98, 99, 100, 101, 102, 103, 104, 105, 106, 107, 108, 109, 110, 111, 112, 113, 114, 115, 116, 117, 118, 119, 120, 121, 122, 123, 124, 125, 126, 127, 128, 129, 130, 131, 132, 133, 134, 135, 136, 137, 138, 139, 140, 141, 142, 143, 144, 145, 146, 147, 148, 149, 150, 151, 152, 153, 154, 155, 156, 157, 158, 159, 160, 161, 162, 163, 164, 165, 166, 167, 168, 169, 170, 171, 172, 173, 174, 175, 176] rfl (by decide +kernel)
set_option maxRecDepth 20000 in
theorem gX7_firsting_X7_ahead : GoodIn wsX7_firsting (wsV RX7 320 RX7 yX7_ahead wsX7_ahead) := goodIn_app (goodIn_of _ (by decide +kernel)) ggX7_firsting_X7_ahead
theorem dX7_firsting_0 : decode cX7_firsting 0 = .ok (.aload_n 0, 1) := by decide +kernel
theorem dX7_firsting_1 : decode cX7_firsting 1 = .ok (.iconst 0, 1) := by decide +kernel
theorem dX7_firsting_2 : decode cX7_firsting 2 = .ok (.invokevirtual 419, 3) := by decide +kernel
theorem dX7_firsting_5 : decode cX7_firsting 5 = .ok (.ifCond .ne 4, 3) := by decide +kernel
theorem dX7_firsting_8 : decode cX7_firsting 8 = .ok (.return_, 1) := by decide +kernel
theorem dX7_firsting_9 : decode cX7_firsting 9 = .ok (.aload_n 0, 1) := by decide +kernel
theorem dX7_firsting_10 : decode cX7_firsting 10 = .ok (.invokevirtual 434, 3) := by decide +kernel
theorem dX7_firsting_13 : decode cX7_firsting 13 = .ok (.istore_n 1, 1) := by decide +kernel
theorem dX7_firsting_14 : decode cX7_firsting 14 = .ok (.aload_n 0, 1) := by decide +kernel
theorem dX7_firsting_15 : decode cX7_firsting 15 = .ok (.getfield 36, 3) := by decide +kernel
theorem dX7_firsting_18 : decode cX7_firsting 18 = .ok (.ifCond .ne 29, 3) := by decide +kernel
theorem dX7_firsting_21 : decode cX7_firsting 21 = .ok (.aload_n 0, 1) := by decide +kernel
theorem dX7_firsting_22 : decode cX7_firsting 22 = .ok (.getfield 81, 3) := by decide +kernel
theorem dX7_firsting_25 : decode cX7_firsting 25 = .ok (.aload_n 0, 1) := by decide +kernel
theorem dX7_firsting_26 : decode cX7_firsting 26 = .ok (.getfield 124, 3) := by decide +kernel
theorem dX7_firsting_29 : decode cX7_firsting 29 = .ok (.iaload, 1) := by decide +kernel
theorem dX7_firsting_30 : decode cX7_firsting 30 = .ok (.iload_n 1, 1) := by decide +kernel
theorem dX7_firsting_31 : decode cX7_firsting 31 = .ok (.ishr, 1) := by decide +kernel
theorem dX7_firsting_32 : decode cX7_firsting 32 = .ok (.iconst 1, 1) := by decide +kernel
theorem dX7_firsting_33 : decode cX7_firsting 33 = .ok (.iand, 1) := by decide +kernel
theorem dX7_firsting_34 : decode cX7_firsting 34 = .ok (.iconst 1, 1) := by decide +kernel
theorem dX7_firsting_35 : decode cX7_firsting 35 = .ok (.if_icmp .ne 12, 3) := by decide +kernel
theorem dX7_firsting_38 : decode cX7_firsting 38 = .ok (.aload_n 0, 1) := by decide +kernel
theorem dX7_firsting_39 : decode cX7_firsting 39 = .ok (.iconst 3, 1) := by decide +kernel
theorem dX7_firsting_40 : decode cX7_firsting 40 = .ok (.aload_n 0, 1) := by decide +kernel
theorem dX7_firsting_41 : decode cX7_firsting 41 = .ok (.getfield 23, 3) := by decide +kernel
theorem dX7_firsting_44 : decode cX7_firsting 44 = .ok (.invokevirtual 299, 3) := by decide +kernel
theorem dX7_firsting_47 : decode cX7_firsting 47 = .ok (.aload_n 0, 1) := by decide +kernel
theorem dX7_firsting_48 : decode cX7_firsting 48 = .ok (.getfield 36, 3) := by decide +kernel
theorem dX7_firsting_51 : decode cX7_firsting 51 = .ok (.ifCond .le 4, 3) := by decide +kernel
theorem dX7_firsting_54 : decode cX7_firsting 54 = .ok (.return_, 1) := by decide +kernel
theorem dX7_firsting_55 : decode cX7_firsting 55 = .ok (.aload_n 0, 1) := by decide +kernel
theorem dX7_firsting_56 : decode cX7_firsting 56 = .ok (.invokevirtual 320, 3) := by decide +kernel
theorem dX7_firsting_59 : decode cX7_firsting 59 = .ok (.aload_n 0, 1) := by decide +kernel
theorem dX7_firsting_60 : decode cX7_firsting 60 = .ok (.getfield 81, 3) := by decide +kernel
theorem dX7_firsting_63 : decode cX7_firsting 63 = .ok (.aload_n 0, 1) := by decide +kernel
theorem dX7_firsting_64 : decode cX7_firsting 64 = .ok (.getfield 124, 3) := by decide +kernel
theorem dX7_firsting_67 : decode cX7_firsting 67 = .ok (.dup2, 1) := by decide +kernel
theorem dX7_firsting_68 : decode cX7_firsting 68 = .ok (.iaload, 1) := by decide +kernel
theorem dX7_firsting_69 : decode cX7_firsting 69 = .ok (.iconst 1, 1) := by decide +kernel
theorem dX7_firsting_70 : decode cX7_firsting 70 = .ok (.iload_n 1, 1) := by decide +kernel
theorem dX7_firsting_71 : decode cX7_firsting 71 = .ok (.ishl, 1) := by decide +kernel
theorem dX7_firsting_72 : decode cX7_firsting 72 = .ok (.ior, 1) := by decide +kernel
theorem dX7_firsting_73 : decode cX7_firsting 73 = .ok (.iastore, 1) := by decide +kernel
theorem dX7_firsting_74 : decode cX7_firsting 74 = .ok (.return_, 1) := by decide +kernel
set_option maxRecDepth 20000 in
theorem ggX7_darkening_X7_counts : GoodIn wsX7_darkening wsX7_counts := goodIn_r _ [9, 10, 11, 12, 13, 14, 8, 15, 16, 17, 18, 19, 20, 21, 22, 23, 24, 25, 26, 27, 28, 29, 30, 31, 32, 33, 34, 35, 36, 37, 38, 39, 40, 41, 42, 43, 44, 45, 46, 47, 48, 49, 50, 51, 52, 53, 54, 55, 56, 57, 58, 59, 60, 61, 62, 125, 126, 127, 128, 129, 130, 131, 132, 133, 134, 135, 136, 137, 138, 139, 140, 141, 142, 143, 144, 145, 146, 147, 148, 149, 150, 151, 152, 153, 154, 155, 156, 157, 158, 159, 160, 161, 162, 163, 164, 165, 166, 167, 168, 169, 170, 171, 172, 173, 174, 175, 176, 177, 178, 179, 180, 181, 182, 183, 184, 185, 186, 187, 188, 189, 190, 191, 192, 193, 194, 195, 196, 197, 198, 199, 200, 201, 202, 203, 204, 205, 206, 207, 208, 209, 210, 211, 212, 213, 214, 215, 216] rfl (by decide +kernel)
set_option maxRecDepth 20000 in
theorem gX7_darkening_X7_counts : GoodIn wsX7_darkening (wsV RX7 419 RX7 yX7_counts wsX7_counts) := goodIn_app (goodIn_of _ (by decide +kernel)) ggX7_darkening_X7_counts
set_option maxRecDepth 20000 in
theorem ggX7_darkening_X7_reads : GoodIn wsX7_darkening wsX7_reads := goodIn_r _ [66, 10, 67, 68, 69, 70, 71, 72, 73, 8, 74, 75, 76, 77, 78, 79, 80, 81, 82, 59, 11, 60, 61, 62, 83, 24, 39, 53, 54, 55, 56, 43, 40, 26, 84, 85, 86, 87, 25, 12, 13, 14, 15, 16, 88, 89, 90, 91, 92, 93, 94, 27, 95, 96, 97, 98, 99, 17, 18, 19, 20, 21, 22, 23, 28, 29, 30, 31, 32, 33, 34, 35, 36, 37, 38, 41, 42, 44, 45, 46, 47, 48, 49, 50, 51, 52, 57, 58, 100, 101, 102, 103, 104, 105, 106, 107, 108, 109, 110, 111, 112, 2, 3, 113, 114, 115, 116, 117, 118, 119, 120, 121, 122, 123, 124, 125, 126, 127, 128, 129, 130, 131, 132, 133, 134, 135, 136, 137, 138, 139, 140, 141, 142, 143, 144, 145, 146, 147, 148, 149, 150, 151, 152, 153, 154, 155, 156, 157, 158, 159, 160, 161, 162, 163, 164, 165, 166, 167, 168, 169, 170, 171, 172, 173, 174, 175, 176, 177, 178, 179, 180, 181, 182, 183, 184, 185, 186, 187, 188, 189, 190, 191, 192, 193, 194, 195, 196, 197, 198, 199, 200, 201, 202, 203, 204, 205, 206, 207, 208, 209, 210, 211, 212, 213, 214, 215, 216] rfl (by decide +kernel)
set_option maxRecDepth 20000 in
theorem gX7_darkening_X7_reads : GoodIn wsX7_darkening (wsV RX7 441 RX7 yX7_reads wsX7_reads) := goodIn_app (goodIn_of _ (by decide +kernel)) ggX7_darkening_X7_reads
theorem dX7_darkening_0 : decode cX7_darkening 0 = .ok (.aload_n 0, 1) := by decide +kernel
theorem dX7_darkening_1 : decode cX7_darkening 1 = .ok (.aload_n 0, 1) := by decide +kernel
theorem dX7_darkening_2 : decode cX7_darkening 2 = .ok (.getfield 84, 3) := by decide +kernel
theorem dX7_darkening_5 : decode cX7_darkening 5 = .ok (.aload_n 0, 1) := by decide +kernel
theorem dX7_darkening_6 : decode cX7_darkening 6 = .ok (.getfield 124, 3) := by decide +kernel
theorem dX7_darkening_9 : decode cX7_darkening 9 = .ok (.iaload, 1) := by decide +kernel
theorem dX7_darkening_10 : decode cX7_darkening 10 = .ok (.iconst (-1), 1) := by decide +kernel
theorem dX7_darkening_11 : decode cX7_darkening 11 = .ok (.if_icmp .eq 7, 3) := by decide +kernel
theorem dX7_darkening_14 : decode cX7_darkening 14 = .ok (.iconst 1, 1) := by decide +kernel
theorem dX7_darkening_15 : decode cX7_darkening 15 = .ok (.goto 4, 3) := by decide +kernel
theorem dX7_darkening_18 : decode cX7_darkening 18 = .ok (.iconst 0, 1) := by decide +kernel
theorem dX7_darkening_19 : decode cX7_darkening 19 = .ok (.invokevirtual 419, 3) := by decide +kernel
theorem dX7_darkening_22 : decode cX7_darkening 22 = .ok (.ifCond .ne 4, 3) := by decide +kernel
theorem dX7_darkening_25 : decode cX7_darkening 25 = .ok (.return_, 1) := by decide +kernel
theorem dX7_darkening_26 : decode cX7_darkening 26 = .ok (.aload_n 0, 1) := by decide +kernel
theorem dX7_darkening_27 : decode cX7_darkening 27 = .ok (.getfield 84, 3) := by decide +kernel
theorem dX7_darkening_30 : decode cX7_darkening 30 = .ok (.aload_n 0, 1) := by decide +kernel
theorem dX7_darkening_31 : decode cX7_darkening 31 = .ok (.getfield 124, 3) := by decide +kernel
theorem dX7_darkening_34 : decode cX7_darkening 34 = .ok (.aload_n 0, 1) := by decide +kernel
theorem dX7_darkening_35 : decode cX7_darkening 35 = .ok (.getfield 121, 3) := by decide +kernel
theorem dX7_darkening_38 : decode cX7_darkening 38 = .ok (.iastore, 1) := by decide +kernel
theorem dX7_darkening_39 : decode cX7_darkening 39 = .ok (.aload_n 0, 1) := by decide +kernel
theorem dX7_darkening_40 : decode cX7_darkening 40 = .ok (.iconst 0, 1) := by decide +kernel
theorem dX7_darkening_41 : decode cX7_darkening 41 = .ok (.invokevirtual 441, 3) := by decide +kernel
theorem dX7_darkening_44 : decode cX7_darkening 44 = .ok (.aload_n 0, 1) := by decide +kernel
theorem dX7_darkening_45 : decode cX7_darkening 45 = .ok (.getfield 87, 3) := by decide +kernel
theorem dX7_darkening_48 : decode cX7_darkening 48 = .ok (.aload_n 0, 1) := by decide +kernel
theorem dX7_darkening_49 : decode cX7_darkening 49 = .ok (.getfield 124, 3) := by decide +kernel
theorem dX7_darkening_52 : decode cX7_darkening 52 = .ok (.aload_n 0, 1) := by decide +kernel
theorem dX7_darkening_53 : decode cX7_darkening 53 = .ok (.getfield 121, 3) := by decide +kernel
theorem dX7_darkening_56 : decode cX7_darkening 56 = .ok (.iastore, 1) := by decide +kernel
theorem dX7_darkening_57 : decode cX7_darkening 57 = .ok (.return_, 1) := by decide +kernel
set_option maxRecDepth 20000 in
theorem ggX7_rooming_X7_counts : GoodIn wsX7_rooming wsX7_counts := goodIn_r _ [9, 10, 11, 12, 13, 14, 8, 15, 16, 17, 18, 19, 20, 21, 22, 23, 24, 25, 26, 27, 28, 29, 30, 31, 32, 33, 34, 35, 36, 37, 38, 39, 40, 41, 42, 43, 44, 45, 46, 47, 48, 49, 50, 51, 52, 53, 54, 55, 56, 57, 58, 59, 60, 61, 62, 125, 126, 127, 128, 129, 130, 131, 132, 133, 134, 135, 136, 137, 138, 139, 140, 141, 142, 143, 144, 145, 146, 147, 148, 149, 150, 151, 152, 153, 154, 155, 156, 157, 158, 159, 160, 161, 162, 163, 164, 165, 166, 167, 168, 169, 170, 171, 172, 173, 174, 175, 176, 177, 178, 179, 180, 181, 182, 183, 184, 185, 186, 187, 188, 189, 190, 191, 192, 193, 194, 195, 196, 197, 198, 199, 200, 201, 202, 203, 204, 205, 206, 207, 208, 209, 210, 211, 212, 213, 214, 215, 216] rfl (by decide +kernel)
set_option maxRecDepth 20000 in
theorem gX7_rooming_X7_counts : GoodIn wsX7_rooming (wsV RX7 419 RX7 yX7_counts wsX7_counts) := goodIn_app (goodIn_of _ (by decide +kernel)) ggX7_rooming_X7_counts
set_option maxRecDepth 20000 in
theorem ggX7_rooming_X7_reads : GoodIn wsX7_rooming wsX7_reads := goodIn_r _ [66, 10, 67, 68, 69, 70, 71, 72, 73, 8, 74, 75, 76, 77, 78, 79, 80, 81, 82, 59, 11, 60, 61, 62, 83, 24, 39, 53, 54, 55, 56, 43, 40, 26, 84, 85, 86, 87, 25, 12, 13, 14, 15, 16, 88, 89, 90, 91, 92, 93, 94, 27, 95, 96, 97, 98, 99, 17, 18, 19, 20, 21, 22, 23, 28, 29, 30, 31, 32, 33, 34, 35, 36, 37, 38, 41, 42, 44, 45, 46, 47, 48, 49, 50, 51, 52, 57, 58, 100, 101, 102, 103, 104, 105, 106, 107, 108, 109, 110, 111, 112, 2, 3, 113, 114, 115, 116, 117, 118, 119, 120, 121, 122, 123, 124, 125, 126, 127, 128, 129, 130, 131, 132, 133, 134, 135, 136, 137, 138, 139, 140, 141, 142, 143, 144, 145, 146, 147, 148, 149, 150, 151, 152, 153, 154, 155, 156, 157, 158, 159, 160, 161, 162, 163, 164, 165, 166, 167, 168, 169, 170, 171, 172, 173, 174, 175, 176, 177, 178, 179, 180, 181, 182, 183, 184, 185, 186, 187, 188, 189, 190, 191, 192, 193, 194, 195, 196, 197, 198, 199, 200, 201, 202, 203, 204, 205, 206, 207, 208, 209, 210, 211, 212, 213, 214, 215, 216] rfl (by decide +kernel)
set_option maxRecDepth 20000 in
theorem gX7_rooming_X7_reads : GoodIn wsX7_rooming (wsV RX7 441 RX7 yX7_reads wsX7_reads) := goodIn_app (goodIn_of _ (by decide +kernel)) ggX7_rooming_X7_reads
theorem dX7_rooming_0 : decode cX7_rooming 0 = .ok (.aload_n 0, 1) := by decide +kernel
theorem dX7_rooming_1 : decode cX7_rooming 1 = .ok (.aload_n 0, 1) := by decide +kernel
theorem dX7_rooming_2 : decode cX7_rooming 2 = .ok (.getfield 90, 3) := by decide +kernel
theorem dX7_rooming_5 : decode cX7_rooming 5 = .ok (.aload_n 0, 1) := by decide +kernel
theorem dX7_rooming_6 : decode cX7_rooming 6 = .ok (.getfield 124, 3) := by decide +kernel
theorem dX7_rooming_9 : decode cX7_rooming 9 = .ok (.iaload, 1) := by decide +kernel
theorem dX7_rooming_10 : decode cX7_rooming 10 = .ok (.iconst (-1), 1) := by decide +kernel
theorem dX7_rooming_11 : decode cX7_rooming 11 = .ok (.if_icmp .eq 7, 3) := by decide +kernel
theorem dX7_rooming_14 : decode cX7_rooming 14 = .ok (.iconst 1, 1) := by decide +kernel
theorem dX7_rooming_15 : decode cX7_rooming 15 = .ok (.goto 4, 3) := by decide +kernel
theorem dX7_rooming_18 : decode cX7_rooming 18 = .ok (.iconst 0, 1) := by decide +kernel
theorem dX7_rooming_19 : decode cX7_rooming 19 = .ok (.invokevirtual 419, 3) := by decide +kernel
theorem dX7_rooming_22 : decode cX7_rooming 22 = .ok (.ifCond .ne 4, 3) := by decide +kernel
theorem dX7_rooming_25 : decode cX7_rooming 25 = .ok (.return_, 1) := by decide +kernel
theorem dX7_rooming_26 : decode cX7_rooming 26 = .ok (.aload_n 0, 1) := by decide +kernel
theorem dX7_rooming_27 : decode cX7_rooming 27 = .ok (.getfield 90, 3) := by decide +kernel
theorem dX7_rooming_30 : decode cX7_rooming 30 = .ok (.aload_n 0, 1) := by decide +kernel
theorem dX7_rooming_31 : decode cX7_rooming 31 = .ok (.getfield 124, 3) := by decide +kernel
theorem dX7_rooming_34 : decode cX7_rooming 34 = .ok (.aload_n 0, 1) := by decide +kernel
theorem dX7_rooming_35 : decode cX7_rooming 35 = .ok (.getfield 121, 3) := by decide +kernel
theorem dX7_rooming_38 : decode cX7_rooming 38 = .ok (.iastore, 1) := by decide +kernel
theorem dX7_rooming_39 : decode cX7_rooming 39 = .ok (.aload_n 0, 1) := by decide +kernel
theorem dX7_rooming_40 : decode cX7_rooming 40 = .ok (.iconst 0, 1) := by decide +kernel
theorem dX7_rooming_41 : decode cX7_rooming 41 = .ok (.invokevirtual 441, 3) := by decide +kernel
theorem dX7_rooming_44 : decode cX7_rooming 44 = .ok (.aload_n 0, 1) := by decide +kernel
theorem dX7_rooming_45 : decode cX7_rooming 45 = .ok (.getfield 93, 3) := by decide +kernel
theorem dX7_rooming_48 : decode cX7_rooming 48 = .ok (.aload_n 0, 1) := by decide +kernel
theorem dX7_rooming_49 : decode cX7_rooming 49 = .ok (.getfield 124, 3) := by decide +kernel
theorem dX7_rooming_52 : decode cX7_rooming 52 = .ok (.aload_n 0, 1) := by decide +kernel
theorem dX7_rooming_53 : decode cX7_rooming 53 = .ok (.getfield 121, 3) := by decide +kernel
theorem dX7_rooming_56 : decode cX7_rooming 56 = .ok (.iastore, 1) := by decide +kernel
theorem dX7_rooming_57 : decode cX7_rooming 57 = .ok (.return_, 1) := by decide +kernel
set_option maxRecDepth 20000 in
theorem ggX7_contenting_X7_counts : GoodIn wsX7_contenting wsX7_counts := goodIn_r _ [9, 10, 11, 12, 13, 14, 8, 15, 16, 17, 18, 19, 20, 21, 22, 23, 24, 25, 26, 27, 28, 29, 30, 31, 32, 33, 34, 35, 36, 37, 38, 39, 40, 41, 42, 43, 44, 45, 46, 47, 48, 49, 50, 51, 52, 53, 54, 55, 56, 57, 58, 59, 60, 61, 62, 125, 126, 127, 128, 129, 130, 131, 132, 133, 134, 135, 136, 137, 138, 139, 140, 141, 142, 143, 144, 145, 146, 147, 148, 149, 150, 151, 152, 153, 154, 155, 156, 157, 158, 159, 160, 161, 162, 163, 164, 165, 166, 167, 168, 169, 170, 171, 172, 173, 174, 175, 176, 177, 178, 179, 180, 181, 182, 183, 184, 185, 186, 187, 188, 189, 190, 191, 192, 193, 194, 195, 196, 197, 198, 199, 200, 201, 202, 203, 204, 205, 206, 207, 208, 209, 210, 211, 212, 213, 214, 215, 216] rfl (by decide +kernel)
set_option maxRecDepth 20000 in
theorem gX7_contenting_X7_counts : GoodIn wsX7_contenting (wsV RX7 419 RX7 yX7_counts wsX7_counts) := goodIn_app (goodIn_of _ (by decide +kernel)) ggX7_contenting_X7_counts
set_option maxRecDepth 20000 in
theorem ggX7_contenting_X7_reads : GoodIn wsX7_contenting wsX7_reads := goodIn_r _ [66, 10, 67, 68, 69, 70, 71, 72, 73, 8, 74, 75, 76, 77, 78, 79, 80, 81, 82, 59, 11, 60, 61, 62, 83, 24, 39, 53, 54, 55, 56, 43, 40, 26, 84, 85, 86, 87, 25, 12, 13, 14, 15, 16, 88, 89, 90, 91, 92, 93, 94, 27, 95, 96, 97, 98, 99, 17, 18, 19, 20, 21, 22, 23, 28, 29, 30, 31, 32, 33, 34, 35, 36, 37, 38, 41, 42, 44, 45, 46, 47, 48, 49, 50, 51, 52, 57, 58, 100, 101, 102, 103, 104, 105, 106, 107, 108, 109, 110, 111, 112, 2, 3, 113, 114, 115, 116, 117, 118, 119, 120, 121, 122, 123, 124, 125, 126, 127, 128, 129, 130, 131, 132, 133, 134, 135, 136, 137, 138, 139, 140, 141, 142, 143, 144, 145, 146, 147, 148, 149, 150, 151, 152, 153, 154, 155, 156, 157, 158, 159, 160, 161, 162, 163, 164, 165, 166, 167, 168, 169, 170, 171, 172, 173, 174, 175, 176, 177, 178, 179, 180, 181, 182, 183, 184, 185, 186, 187, 188, 189, 190, 191, 192, 193, 194, 195, 196, 197, 198, 199, 200, 201, 202, 203, 204, 205, 206, 207, 208, 209, 210, 211, 212, 213, 214, 215, 216] rfl (by decide +kernel)
set_option maxRecDepth 20000 in
theorem gX7_contenting_X7_reads : GoodIn wsX7_contenting (wsV RX7 441 RX7 yX7_reads wsX7_reads) := goodIn_app (goodIn_of _ (by decide +kernel)) ggX7_contenting_X7_reads
theorem dX7_contenting_0 : decode cX7_contenting 0 = .ok (.aload_n 0, 1) := by decide +kernel
theorem dX7_contenting_1 : decode cX7_contenting 1 = .ok (.aload_n 0, 1) := by decide +kernel
theorem dX7_contenting_2 : decode cX7_contenting 2 = .ok (.getfield 96, 3) := by decide +kernel
theorem dX7_contenting_5 : decode cX7_contenting 5 = .ok (.aload_n 0, 1) := by decide +kernel
theorem dX7_contenting_6 : decode cX7_contenting 6 = .ok (.getfield 124, 3) := by decide +kernel
theorem dX7_contenting_9 : decode cX7_contenting 9 = .ok (.iaload, 1) := by decide +kernel
theorem dX7_contenting_10 : decode cX7_contenting 10 = .ok (.iconst (-1), 1) := by decide +kernel
theorem dX7_contenting_11 : decode cX7_contenting 11 = .ok (.if_icmp .eq 7, 3) := by decide +kernel
theorem dX7_contenting_14 : decode cX7_contenting 14 = .ok (.iconst 1, 1) := by decide +kernel
theorem dX7_contenting_15 : decode cX7_contenting 15 = .ok (.goto 4, 3) := by decide +kernel
theorem dX7_contenting_18 : decode cX7_contenting 18 = .ok (.iconst 0, 1) := by decide +kernel
theorem dX7_contenting_19 : decode cX7_contenting 19 = .ok (.invokevirtual 419, 3) := by decide +kernel
theorem dX7_contenting_22 : decode cX7_contenting 22 = .ok (.ifCond .ne 4, 3) := by decide +kernel
theorem dX7_contenting_25 : decode cX7_contenting 25 = .ok (.return_, 1) := by decide +kernel
theorem dX7_contenting_26 : decode cX7_contenting 26 = .ok (.aload_n 0, 1) := by decide +kernel
theorem dX7_contenting_27 : decode cX7_contenting 27 = .ok (.getfield 96, 3) := by decide +kernel
theorem dX7_contenting_30 : decode cX7_contenting 30 = .ok (.aload_n 0, 1) := by decide +kernel
theorem dX7_contenting_31 : decode cX7_contenting 31 = .ok (.getfield 124, 3) := by decide +kernel
theorem dX7_contenting_34 : decode cX7_contenting 34 = .ok (.aload_n 0, 1) := by decide +kernel
theorem dX7_contenting_35 : decode cX7_contenting 35 = .ok (.getfield 121, 3) := by decide +kernel
theorem dX7_contenting_38 : decode cX7_contenting 38 = .ok (.iastore, 1) := by decide +kernel
theorem dX7_contenting_39 : decode cX7_contenting 39 = .ok (.aload_n 0, 1) := by decide +kernel
theorem dX7_contenting_40 : decode cX7_contenting 40 = .ok (.iconst 1, 1) := by decide +kernel
theorem dX7_contenting_41 : decode cX7_contenting 41 = .ok (.invokevirtual 441, 3) := by decide +kernel
theorem dX7_contenting_44 : decode cX7_contenting 44 = .ok (.aload_n 0, 1) := by decide +kernel
theorem dX7_contenting_45 : decode cX7_contenting 45 = .ok (.getfield 99, 3) := by decide +kernel
theorem dX7_contenting_48 : decode cX7_contenting 48 = .ok (.aload_n 0, 1) := by decide +kernel
theorem dX7_contenting_49 : decode cX7_contenting 49 = .ok (.getfield 124, 3) := by decide +kernel
theorem dX7_contenting_52 : decode cX7_contenting 52 = .ok (.aload_n 0, 1) := by decide +kernel
theorem dX7_contenting_53 : decode cX7_contenting 53 = .ok (.getfield 121, 3) := by decide +kernel
theorem dX7_contenting_56 : decode cX7_contenting 56 = .ok (.iastore, 1) := by decide +kernel
theorem dX7_contenting_57 : decode cX7_contenting 57 = .ok (.return_, 1) := by decide +kernel
set_option maxRecDepth 20000 in
theorem ggX7_telling_X7_counts : GoodIn wsX7_telling wsX7_counts := goodIn_r _ [9, 1, 10, 11, 12, 13, 8, 14, 15, 16, 17, 18, 19, 20, 21, 22, 23, 24, 25, 26, 27, 28, 29, 30, 31, 32, 33, 34, 35, 36, 37, 38, 39, 40, 41, 42, 43, 44, 45, 46, 47, 48, 49, 50, 51, 52, 53, 54, 55, 56, 57, 58, 59, 60, 61, 73, 74, 75, 76, 77, 78, 79, 80, 81, 82, 83, 84, 85, 86, 87, 88, 89, 90, 91, 92, 93, 94, 95, 96, 97, 98, 99, 100, 101, 102, 103, 104, 105, 106, 107, 108, 109, 110, 111, 112, 113, 114, 115, 116, 117, 118, 119, 120, 121, 122, 123, 124, 125, 126, 127, 128, 129, 130, 131, 132, 133, 134, 135, 136, 137, 138, 139, 140, 141, 142, 143, 144, 145, 146, 147, 148, 149, 150, 151, 152, 153, 154, 155, 156, 157, 158, 159, 160, 161, 162, 163, 164] rfl (by decide +kernel)
set_option maxRecDepth 20000 in
theorem gX7_telling_X7_counts : GoodIn wsX7_telling (wsV RX7 419 RX7 yX7_counts wsX7_counts) := goodIn_app (goodIn_of _ (by decide +kernel)) ggX7_telling_X7_counts
set_option maxRecDepth 20000 in
theorem ggX7_telling_X7_number : GoodIn wsX7_telling wsX7_number := goodIn_r _ [65, 1, 23, 10, 25, 66, 67, 68, 8, 69, 24, 11, 12, 13, 14, 15, 70, 71, 72, 16, 17, 18, 19, 20, 21, 22, 26, 27, 28, 29, 30, 31, 32, 33, 34, 35, 36, 37, 38, 39, 40, 41, 42, 43, 44, 45, 46, 47, 48, 49, 50, 51, 52, 53, 54, 55, 56, 57, 58, 59, 60, 61, 73, 74, 75, 76, 77, 78, 79, 80, 81, 82, 83, 84, 85, 86, 87, 88, 89, 90, 91, 92, 93, 94, 95, 96, 97, 98, 99, 100, 101, 102, 103, 104, 105, 106, 107, 108, 109, 110, 111, 112, 113, 114, 115, 116, 117, 118, 119, 120, 121, 122, 123, 124, 125, 126, 127, 128, 129, 130, 131, 132, 133, 134, 135, 136, 137, 138, 139, 140, 141, 142, 143, 144, 145, 146, 147, 148, 149, 150, 151, 152, 153, 154, 155, 156, 157, 158, 159, 160, 161, 162, 163, 164] rfl (by decide +kernel)
set_option maxRecDepth 20000 in
theorem gX7_telling_X7_number : GoodIn wsX7_telling (wsV RX7 431 RX7 yX7_number wsX7_number) := goodIn_app (goodIn_of _ (by decide +kernel)) ggX7_telling_X7_number
theorem dX7_telling_0 : decode cX7_telling 0 = .ok (.aload_n 0, 1) := by decide +kernel
theorem dX7_telling_1 : decode cX7_telling 1 = .ok (.iconst 0, 1) := by decide +kernel
theorem dX7_telling_2 : decode cX7_telling 2 = .ok (.invokevirtual 419, 3) := by decide +kernel
theorem dX7_telling_5 : decode cX7_telling 5 = .ok (.ifCond .ne 4, 3) := by decide +kernel
theorem dX7_telling_8 : decode cX7_telling 8 = .ok (.return_, 1) := by decide +kernel
theorem dX7_telling_9 : decode cX7_telling 9 = .ok (.iload_n 1, 1) := by decide +kernel
theorem dX7_telling_10 : decode cX7_telling 10 = .ok (.ifCond .eq 14, 3) := by decide +kernel
theorem dX7_telling_13 : decode cX7_telling 13 = .ok (.aload_n 0, 1) := by decide +kernel
theorem dX7_telling_14 : decode cX7_telling 14 = .ok (.iconst 1, 1) := by decide +kernel
theorem dX7_telling_15 : decode cX7_telling 15 = .ok (.sipush 999, 3) := by decide +kernel
theorem dX7_telling_18 : decode cX7_telling 18 = .ok (.invokevirtual 431, 3) := by decide +kernel
theorem dX7_telling_21 : decode cX7_telling 21 = .ok (.goto 11, 3) := by decide +kernel
theorem dX7_telling_24 : decode cX7_telling 24 = .ok (.aload_n 0, 1) := by decide +kernel
theorem dX7_telling_25 : decode cX7_telling 25 = .ok (.iconst 0, 1) := by decide +kernel
theorem dX7_telling_26 : decode cX7_telling 26 = .ok (.sipush 999, 3) := by decide +kernel
theorem dX7_telling_29 : decode cX7_telling 29 = .ok (.invokevirtual 431, 3) := by decide +kernel
theorem dX7_telling_32 : decode cX7_telling 32 = .ok (.istore_n 2, 1) := by decide +kernel
theorem dX7_telling_33 : decode cX7_telling 33 = .ok (.aload_n 0, 1) := by decide +kernel
theorem dX7_telling_34 : decode cX7_telling 34 = .ok (.getfield 36, 3) := by decide +kernel
theorem dX7_telling_37 : decode cX7_telling 37 = .ok (.ifCond .le 4, 3) := by decide +kernel
theorem dX7_telling_40 : decode cX7_telling 40 = .ok (.return_, 1) := by decide +kernel
theorem dX7_telling_41 : decode cX7_telling 41 = .ok (.iload_n 1, 1) := by decide +kernel
theorem dX7_telling_42 : decode cX7_telling 42 = .ok (.ifCond .eq 16, 3) := by decide +kernel
theorem dX7_telling_45 : decode cX7_telling 45 = .ok (.aload_n 0, 1) := by decide +kernel
theorem dX7_telling_46 : decode cX7_telling 46 = .ok (.getfield 102, 3) := by decide +kernel
theorem dX7_telling_49 : decode cX7_telling 49 = .ok (.aload_n 0, 1) := by decide +kernel
theorem dX7_telling_50 : decode cX7_telling 50 = .ok (.getfield 124, 3) := by decide +kernel
theorem dX7_telling_53 : decode cX7_telling 53 = .ok (.iload_n 2, 1) := by decide +kernel
theorem dX7_telling_54 : decode cX7_telling 54 = .ok (.iastore, 1) := by decide +kernel
theorem dX7_telling_55 : decode cX7_telling 55 = .ok (.goto 13, 3) := by decide +kernel
theorem dX7_telling_58 : decode cX7_telling 58 = .ok (.aload_n 0, 1) := by decide +kernel
theorem dX7_telling_59 : decode cX7_telling 59 = .ok (.getfield 105, 3) := by decide +kernel
theorem dX7_telling_62 : decode cX7_telling 62 = .ok (.aload_n 0, 1) := by decide +kernel
theorem dX7_telling_63 : decode cX7_telling 63 = .ok (.getfield 124, 3) := by decide +kernel
theorem dX7_telling_66 : decode cX7_telling 66 = .ok (.iload_n 2, 1) := by decide +kernel
theorem dX7_telling_67 : decode cX7_telling 67 = .ok (.iastore, 1) := by decide +kernel
theorem dX7_telling_68 : decode cX7_telling 68 = .ok (.return_, 1) := by decide +kernel
set_option maxRecDepth 20000 in
theorem ggX7_statement_X7_lex : GoodIn wsX7_statement wsX7_lex := goodIn_r _ [15, 16, 17, 18, 19, 14, 20, 1, 21, 206, 207, 208, 209, 210, 211, 212, 213, 214, 215, 216, 217, 218, 219, 220, 221, 222, 223, 224, 225, 226, 227, 228, 229, 230, 231, 232, 233, 234, 235, 236, 237, 238, 239, 240, 241, 242, 243, 244, 245, 246, 247, 248, 249, 250, 251, 252, 253, 254, 255, 256, 257, 258, 259, 260, 261, 262, 263, 264, 265, 266, 267, 268, 269, 270, 271, 272, 273, 274, 275, 276, 277, 278, 279, 280, 281, 282, 283, 284, 285, 286, 287, 288, 289, 290, 291, 292, 293, 294, 295, 296, 297] rfl (by decide +kernel)
set_option maxRecDepth 20000 in
theorem gX7_statement_X7_lex : GoodIn wsX7_statement (wsV RX7 314 RX7 yX7_lex wsX7_lex) := goodIn_app (goodIn_of _ (by decide +kernel)) ggX7_statement_X7_lex
set_option maxRecDepth 20000 in
theorem ggX7_statement_X7_isWord : GoodIn wsX7_statement wsX7_isWord := goodIn_r _ [25, 26, 27, 206, 207, 208, 209, 210, 211, 212, 213, 214, 215, 216, 217, 218, 219, 220, 221, 222, 223, 224, 225, 226, 227, 228, 229, 230, 231, 232, 233, 234, 235, 236, 237, 238, 239, 240, 241, 242, 243, 244, 245, 246, 247, 248, 249, 250, 251, 252, 253, 254, 255, 256, 257, 258, 259, 260, 261, 262, 263, 264, 265, 266, 267, 268, 269, 270, 271, 272, 273, 274, 275, 276, 277, 278, 279, 280, 281, 282, 283, 284, 285, 286, 287, 288, 289, 290, 291, 292, 293, 294, 295, 296, 297] rfl (by decide +kernel)
set_option maxRecDepth 20000 in
theorem gX7_statement_X7_isWord : GoodIn wsX7_statement (wsV RX7 397 RX7 yX7_isWord wsX7_isWord) := goodIn_app (goodIn_of _ (by decide +kernel)) ggX7_statement_X7_isWord
set_option maxRecDepth 20000 in
theorem ggX7_statement_X7_thinging : GoodIn wsX7_statement wsX7_thinging := goodIn_r _ [31, 32, 33, 34, 35, 36, 37, 38, 39, 1, 40, 41, 42, 43, 14, 44, 10, 17, 18, 19, 20, 21, 45, 46, 47, 48, 49, 50, 51, 26, 16, 52, 27, 53, 54, 55, 56, 57, 58, 59, 60, 61, 62, 2, 3, 63, 64, 65, 66, 4, 5, 6, 7, 8, 9, 67, 68, 69, 70, 71, 72, 73, 74, 75, 76, 77, 78, 79, 80, 11, 12, 13, 15, 81, 82, 83, 84, 85, 86, 87, 88, 89, 90, 91, 92, 93, 94, 95, 96, 97, 98, 22, 23, 24, 25, 99, 100, 101, 102, 103, 104, 105, 206, 207, 208, 209, 210, 211, 212, 213, 214, 215, 216, 217, 218, 219, 220, 221, 222, 223, 224, 225, 226, 227, 228, 229, 230, 231, 232, 233, 234, 235, 236, 237, 238, 239, 240, 241, 242, 243, 244, 245, 246, 247, 248, 249, 250, 251, 252, 253, 254, 255, 256, 257, 258, 259, 260, 261, 262, 263, 264, 265, 266, 267, 268, 269, 270, 271, 272, 273, 274, 275, 276, 277, 278, 279, 280, 281, 282, 283, 284, 285, 286, 287, 288, 289, 290, 291, 292, 293, 294, 295, 296, 297] rfl (by decide +kernel)
set_option maxRecDepth 20000 in
theorem gX7_statement_X7_thinging : GoodIn wsX7_statement (wsV RX7 445 RX7 yX7_thinging wsX7_thinging) := goodIn_app (goodIn_of _ (by decide +kernel)) ggX7_statement_X7_thinging
set_option maxRecDepth 20000 in
theorem ggX7_statement_X7_wishing : GoodIn wsX7_statement wsX7_wishing := goodIn_r _ [109, 89, 33, 94, 63, 110, 64, 111, 1, 112, 113, 65, 66, 41, 42, 43, 14, 44, 10, 17, 18, 19, 20, 21, 45, 46, 47, 48, 49, 50, 51, 26, 16, 52, 27, 53, 54, 55, 56, 57, 58, 59, 60, 61, 62, 2, 35, 37, 40, 3, 4, 5, 6, 7, 8, 9, 67, 68, 69, 70, 71, 72, 73, 74, 75, 76, 77, 78, 79, 80, 11, 12, 13, 15, 81, 82, 83, 84, 85, 86, 87, 88, 32, 90, 91, 92, 93, 34, 95, 96, 97, 98, 22, 23, 24, 25, 99, 100, 101, 102, 103, 104, 105, 114, 115, 116, 117, 118, 119, 120, 121, 206, 207, 208, 209, 210, 211, 212, 213, 214, 215, 216, 217, 218, 219, 220, 221, 222, 223, 224, 225, 226, 227, 228, 229, 230, 231, 232, 233, 234, 235, 236, 237, 238, 239, 240, 241, 242, 243, 244, 245, 246, 247, 248, 249, 250, 251, 252, 253, 254, 255, 256, 257, 258, 259, 260, 261, 262, 263, 264, 265, 266, 267, 268, 269, 270, 271, 272, 273, 274, 275, 276, 277, 278, 279, 280, 281, 282, 283, 284, 285, 286, 287, 288, 289, 290, 291, 292, 293, 294, 295, 296, 297] rfl (by decide +kernel)
set_option maxRecDepth 20000 in
theorem gX7_statement_X7_wishing : GoodIn wsX7_statement (wsV RX7 448 RX7 yX7_wishing wsX7_wishing) := goodIn_app (goodIn_of _ (by decide +kernel)) ggX7_statement_X7_wishing
set_option maxRecDepth 20000 in
theorem ggX7_statement_X7_firsting : GoodIn wsX7_statement wsX7_firsting := goodIn_r _ [125, 1, 126, 33, 10, 41, 42, 43, 14, 44, 17, 18, 19, 20, 21, 45, 46, 47, 48, 49, 50, 51, 26, 16, 52, 27, 53, 54, 55, 56, 57, 58, 59, 60, 61, 62, 2, 35, 37, 40, 3, 63, 64, 65, 66, 4, 5, 6, 7, 8, 9, 67, 68, 69, 70, 71, 72, 73, 74, 75, 76, 114, 115, 116, 117, 11, 12, 13, 15, 81, 82, 83, 84, 85, 86, 87, 88, 32, 89, 90, 91, 92, 93, 34, 94, 206, 207, 208, 209, 210, 211, 212, 213, 214, 215, 216, 217, 218, 219, 220, 221, 222, 223, 224, 225, 226, 227, 228, 229, 230, 231, 232, 233, 234, 235, 236, 237, 238, 239, 240, 241, 242, 243, 244, 245, 246, 247, 248, 249, 250, 251, 252, 253, 254, 255, 256, 257, 258, 259, 260, 261, 262, 263, 264, 265, 266, 267, 268, 269, 270, 271, 272, 273, 274, 275, 276, 277, 278, 279, 280, 281, 282, 283, 284, 285, 286, 287, 288, 289, 290, 291, 292, 293, 294, 295, 296, 297] rfl (by decide +kernel)
set_option maxRecDepth 20000 in
theorem gX7_statement_X7_firsting : GoodIn wsX7_statement (wsV RX7 451 RX7 yX7_firsting wsX7_firsting) := goodIn_app (goodIn_of _ (by decide +kernel)) ggX7_statement_X7_firsting
set_option maxRecDepth 20000 in
theorem ggX7_statement_X7_darkening : GoodIn wsX7_statement wsX7_darkening := goodIn_r _ [130, 131, 33, 132, 133, 41, 42, 43, 14, 44, 1, 10, 17, 18, 19, 20, 21, 45, 46, 47, 48, 49, 50, 51, 26, 16, 52, 27, 53, 54, 55, 56, 57, 58, 59, 60, 61, 62, 2, 35, 37, 40, 3, 63, 64, 65, 66, 4, 5, 6, 7, 8, 9, 67, 68, 69, 70, 71, 72, 73, 74, 75, 76, 134, 135, 136, 137, 138, 139, 140, 141, 142, 143, 144, 145, 146, 147, 148, 149, 150, 151, 152, 153, 154, 11, 12, 13, 15, 155, 156, 157, 22, 23, 24, 25, 158, 159, 160, 161, 162, 163, 164, 165, 166, 167, 168, 169, 170, 171, 172, 173, 174, 175, 176, 177, 178, 179, 180, 181, 182, 183, 184, 185, 186, 187, 206, 207, 208, 209, 210, 211, 212, 213, 214, 215, 216, 217, 218, 219, 220, 221, 222, 223, 224, 225, 226, 227, 228, 229, 230, 231, 232, 233, 234, 235, 236, 237, 238, 239, 240, 241, 242, 243, 244, 245, 246, 247, 248, 249, 250, 251, 252, 253, 254, 255, 256, 257, 258, 259, 260, 261, 262, 263, 264, 265, 266, 267, 268, 269, 270, 271, 272, 273, 274, 275, 276, 277, 278, 279, 280, 281, 282, 283, 284, 285, 286, 287, 288, 289, 290, 291, 292, 293, 294, 295, 296, 297] rfl (by decide +kernel)
set_option maxRecDepth 20000 in
theorem gX7_statement_X7_darkening : GoodIn wsX7_statement (wsV RX7 454 RX7 yX7_darkening wsX7_darkening) := goodIn_app (goodIn_of _ (by decide +kernel)) ggX7_statement_X7_darkening
set_option maxRecDepth 20000 in
theorem ggX7_statement_X7_rooming : GoodIn wsX7_statement wsX7_rooming := goodIn_r _ [191, 192, 33, 132, 193, 41, 42, 43, 14, 44, 1, 10, 17, 18, 19, 20, 21, 45, 46, 47, 48, 49, 50, 51, 26, 16, 52, 27, 53, 54, 55, 56, 57, 58, 59, 60, 61, 62, 2, 35, 37, 40, 3, 63, 64, 65, 66, 4, 5, 6, 7, 8, 9, 67, 68, 69, 70, 71, 72, 73, 74, 75, 76, 134, 135, 136, 137, 138, 139, 140, 141, 142, 143, 144, 145, 146, 147, 148, 149, 150, 151, 152, 153, 154, 11, 12, 13, 15, 155, 156, 157, 22, 23, 24, 25, 158, 159, 160, 161, 162, 163, 164, 165, 166, 167, 168, 169, 170, 171, 172, 173, 174, 175, 176, 177, 178, 179, 180, 181, 182, 183, 184, 185, 186, 187, 206, 207, 208, 209, 210, 211, 212, 213, 214, 215, 216, 217, 218, 219, 220, 221, 222, 223, 224, 225, 226, 227, 228, 229, 230, 231, 232, 233, 234, 235, 236, 237, 238, 239, 240, 241, 242, 243, 244, 245, 246, 247, 248, 249, 250, 251, 252, 253, 254, 255, 256, 257, 258, 259, 260, 261, 262, 263, 264, 265, 266, 267, 268, 269, 270, 271, 272, 273, 274, 275, 276, 277, 278, 279, 280, 281, 282, 283, 284, 285, 286, 287, 288, 289, 290, 291, 292, 293, 294, 295, 296, 297] rfl (by decide +kernel)
set_option maxRecDepth 20000 in
theorem gX7_statement_X7_rooming : GoodIn wsX7_statement (wsV RX7 457 RX7 yX7_rooming wsX7_rooming) := goodIn_app (goodIn_of _ (by decide +kernel)) ggX7_statement_X7_rooming
set_option maxRecDepth 20000 in
theorem ggX7_statement_X7_contenting : GoodIn wsX7_statement wsX7_contenting := goodIn_r _ [197, 198, 33, 132, 199, 41, 42, 43, 14, 44, 1, 10, 17, 18, 19, 20, 21, 45, 46, 47, 48, 49, 50, 51, 26, 16, 52, 27, 53, 54, 55, 56, 57, 58, 59, 60, 61, 62, 2, 35, 37, 40, 3, 63, 64, 65, 66, 4, 5, 6, 7, 8, 9, 67, 68, 69, 70, 71, 72, 73, 74, 75, 76, 134, 135, 136, 137, 138, 139, 140, 141, 142, 143, 144, 145, 146, 147, 148, 149, 150, 151, 152, 153, 154, 11, 12, 13, 15, 155, 156, 157, 22, 23, 24, 25, 158, 159, 160, 161, 162, 163, 164, 165, 166, 167, 168, 169, 170, 171, 172, 173, 174, 175, 176, 177, 178, 179, 180, 181, 182, 183, 184, 185, 186, 187, 206, 207, 208, 209, 210, 211, 212, 213, 214, 215, 216, 217, 218, 219, 220, 221, 222, 223, 224, 225, 226, 227, 228, 229, 230, 231, 232, 233, 234, 235, 236, 237, 238, 239, 240, 241, 242, 243, 244, 245, 246, 247, 248, 249, 250, 251, 252, 253, 254, 255, 256, 257, 258, 259, 260, 261, 262, 263, 264, 265, 266, 267, 268, 269, 270, 271, 272, 273, 274, 275, 276, 277, 278, 279, 280, 281, 282, 283, 284, 285, 286, 287, 288, 289, 290, 291, 292, 293, 294, 295, 296, 297] rfl (by decide +kernel)
set_option maxRecDepth 20000 in
theorem gX7_statement_X7_contenting : GoodIn wsX7_statement (wsV RX7 460 RX7 yX7_contenting wsX7_contenting) := goodIn_app (goodIn_of _ (by decide +kernel)) ggX7_statement_X7_contenting
set_option maxRecDepth 20000 in
theorem ggX7_statement_X7_telling : GoodIn wsX7_statement wsX7_telling := goodIn_r _ [203, 1, 204, 33, 205, 41, 42, 43, 14, 44, 10, 17, 18, 19, 20, 21, 45, 46, 47, 48, 49, 50, 51, 26, 16, 52, 27, 53, 54, 55, 56, 57, 58, 59, 60, 61, 62, 2, 35, 37, 40, 3, 63, 64, 65, 66, 4, 5, 6, 7, 8, 9, 67, 68, 69, 70, 71, 72, 73, 74, 75, 76, 99, 100, 101, 102, 11, 12, 13, 15, 103, 104, 105, 206, 207, 208, 209, 210, 211, 212, 213, 214, 215, 216, 217, 218, 219, 220, 221, 222, 223, 224, 225, 226, 227, 228, 229, 230, 231, 232, 233, 234, 235, 236, 237, 238, 239, 240, 241, 242, 243, 244, 245, 246, 247, 248, 249, 250, 251, 252, 253, 254, 255, 256, 257, 258, 259, 260, 261, 262, 263, 264, 265, 266, 267, 268, 269, 270, 271, 272, 273, 274, 275, 276, 277, 278, 279, 280, 281, 282, 283, 284, 285, 286, 287, 288, 289, 290, 291, 292, 293, 294, 295, 296, 297] rfl (by decide +kernel)
set_option maxRecDepth 20000 in
theorem gX7_statement_X7_telling : GoodIn wsX7_statement (wsV RX7 463 RX7 yX7_telling wsX7_telling) := goodIn_app (goodIn_of _ (by decide +kernel)) ggX7_statement_X7_telling
set_option maxRecDepth 20000 in
theorem ggX7_statement_X7_blame : GoodIn wsX7_statement wsX7_blame := goodIn_r _ [20, 1, 21, 206, 207, 208, 209, 210, 211, 212, 213, 214, 215, 216, 217, 218, 219, 220, 221, 222, 223, 224, 225, 226, 227, 228, 229, 230, 231, 232, 233, 234, 235, 236, 237, 238, 239, 240, 241, 242, 243, 244, 245, 246, 247, 248, 249, 250, 251, 252, 253, 254, 255, 256, 257, 258, 259, 260, 261, 262, 263, 264, 265, 266, 267, 268, 269, 270, 271, 272, 273, 274, 275, 276, 277, 278, 279, 280, 281, 282, 283, 284, 285, 286, 287, 288, 289, 290, 291, 292, 293, 294, 295, 296, 297] rfl (by decide +kernel)
set_option maxRecDepth 20000 in
theorem gX7_statement_X7_blame : GoodIn wsX7_statement (wsV RX7 299 RX7 yX7_blame wsX7_blame) := goodIn_app (goodIn_of _ (by decide +kernel)) ggX7_statement_X7_blame
theorem dX7_statement_0 : decode cX7_statement 0 = .ok (.aload_n 0, 1) := by decide +kernel
theorem dX7_statement_1 : decode cX7_statement 1 = .ok (.invokevirtual 314, 3) := by decide +kernel
theorem dX7_statement_4 : decode cX7_statement 4 = .ok (.aload_n 0, 1) := by decide +kernel
theorem dX7_statement_5 : decode cX7_statement 5 = .ok (.getfield 36, 3) := by decide +kernel
theorem dX7_statement_8 : decode cX7_statement 8 = .ok (.ifCond .le 4, 3) := by decide +kernel
theorem dX7_statement_11 : decode cX7_statement 11 = .ok (.return_, 1) := by decide +kernel
theorem dX7_statement_12 : decode cX7_statement 12 = .ok (.aload_n 0, 1) := by decide +kernel
theorem dX7_statement_13 : decode cX7_statement 13 = .ok (.ldc2_w 323, 3) := by decide +kernel
theorem dX7_statement_16 : decode cX7_statement 16 = .ok (.invokevirtual 397, 3) := by decide +kernel
theorem dX7_statement_19 : decode cX7_statement 19 = .ok (.ifCond .eq 10, 3) := by decide +kernel
theorem dX7_statement_22 : decode cX7_statement 22 = .ok (.aload_n 0, 1) := by decide +kernel
theorem dX7_statement_23 : decode cX7_statement 23 = .ok (.invokevirtual 445, 3) := by decide +kernel
theorem dX7_statement_26 : decode cX7_statement 26 = .ok (.goto 133, 3) := by decide +kernel
theorem dX7_statement_29 : decode cX7_statement 29 = .ok (.aload_n 0, 1) := by decide +kernel
theorem dX7_statement_30 : decode cX7_statement 30 = .ok (.ldc2_w 331, 3) := by decide +kernel
theorem dX7_statement_33 : decode cX7_statement 33 = .ok (.invokevirtual 397, 3) := by decide +kernel
theorem dX7_statement_36 : decode cX7_statement 36 = .ok (.ifCond .eq 10, 3) := by decide +kernel
theorem dX7_statement_39 : decode cX7_statement 39 = .ok (.aload_n 0, 1) := by decide +kernel
theorem dX7_statement_40 : decode cX7_statement 40 = .ok (.invokevirtual 448, 3) := by decide +kernel
theorem dX7_statement_43 : decode cX7_statement 43 = .ok (.goto 116, 3) := by decide +kernel
theorem dX7_statement_46 : decode cX7_statement 46 = .ok (.aload_n 0, 1) := by decide +kernel
theorem dX7_statement_47 : decode cX7_statement 47 = .ok (.ldc2_w 341, 3) := by decide +kernel
theorem dX7_statement_50 : decode cX7_statement 50 = .ok (.invokevirtual 397, 3) := by decide +kernel
theorem dX7_statement_53 : decode cX7_statement 53 = .ok (.ifCond .eq 10, 3) := by decide +kernel
theorem dX7_statement_56 : decode cX7_statement 56 = .ok (.aload_n 0, 1) := by decide +kernel
theorem dX7_statement_57 : decode cX7_statement 57 = .ok (.invokevirtual 451, 3) := by decide +kernel
theorem dX7_statement_60 : decode cX7_statement 60 = .ok (.goto 99, 3) := by decide +kernel
theorem dX7_statement_63 : decode cX7_statement 63 = .ok (.aload_n 0, 1) := by decide +kernel
theorem dX7_statement_64 : decode cX7_statement 64 = .ok (.ldc2_w 343, 3) := by decide +kernel
theorem dX7_statement_67 : decode cX7_statement 67 = .ok (.invokevirtual 397, 3) := by decide +kernel
theorem dX7_statement_70 : decode cX7_statement 70 = .ok (.ifCond .eq 10, 3) := by decide +kernel
theorem dX7_statement_73 : decode cX7_statement 73 = .ok (.aload_n 0, 1) := by decide +kernel
theorem dX7_statement_74 : decode cX7_statement 74 = .ok (.invokevirtual 454, 3) := by decide +kernel
theorem dX7_statement_77 : decode cX7_statement 77 = .ok (.goto 82, 3) := by decide +kernel
theorem dX7_statement_80 : decode cX7_statement 80 = .ok (.aload_n 0, 1) := by decide +kernel
theorem dX7_statement_81 : decode cX7_statement 81 = .ok (.ldc2_w 345, 3) := by decide +kernel
theorem dX7_statement_84 : decode cX7_statement 84 = .ok (.invokevirtual 397, 3) := by decide +kernel
theorem dX7_statement_87 : decode cX7_statement 87 = .ok (.ifCond .eq 10, 3) := by decide +kernel
theorem dX7_statement_90 : decode cX7_statement 90 = .ok (.aload_n 0, 1) := by decide +kernel
theorem dX7_statement_91 : decode cX7_statement 91 = .ok (.invokevirtual 457, 3) := by decide +kernel
theorem dX7_statement_94 : decode cX7_statement 94 = .ok (.goto 65, 3) := by decide +kernel
theorem dX7_statement_97 : decode cX7_statement 97 = .ok (.aload_n 0, 1) := by decide +kernel
theorem dX7_statement_98 : decode cX7_statement 98 = .ok (.ldc2_w 347, 3) := by decide +kernel
theorem dX7_statement_101 : decode cX7_statement 101 = .ok (.invokevirtual 397, 3) := by decide +kernel
theorem dX7_statement_104 : decode cX7_statement 104 = .ok (.ifCond .eq 10, 3) := by decide +kernel
theorem dX7_statement_107 : decode cX7_statement 107 = .ok (.aload_n 0, 1) := by decide +kernel
theorem dX7_statement_108 : decode cX7_statement 108 = .ok (.invokevirtual 460, 3) := by decide +kernel
theorem dX7_statement_111 : decode cX7_statement 111 = .ok (.goto 48, 3) := by decide +kernel
theorem dX7_statement_114 : decode cX7_statement 114 = .ok (.aload_n 0, 1) := by decide +kernel
theorem dX7_statement_115 : decode cX7_statement 115 = .ok (.ldc2_w 349, 3) := by decide +kernel
theorem dX7_statement_118 : decode cX7_statement 118 = .ok (.invokevirtual 397, 3) := by decide +kernel
theorem dX7_statement_121 : decode cX7_statement 121 = .ok (.ifCond .eq 11, 3) := by decide +kernel
theorem dX7_statement_124 : decode cX7_statement 124 = .ok (.aload_n 0, 1) := by decide +kernel
theorem dX7_statement_125 : decode cX7_statement 125 = .ok (.iconst 1, 1) := by decide +kernel
theorem dX7_statement_126 : decode cX7_statement 126 = .ok (.invokevirtual 463, 3) := by decide +kernel
theorem dX7_statement_129 : decode cX7_statement 129 = .ok (.goto 30, 3) := by decide +kernel
theorem dX7_statement_132 : decode cX7_statement 132 = .ok (.aload_n 0, 1) := by decide +kernel
theorem dX7_statement_133 : decode cX7_statement 133 = .ok (.ldc2_w 351, 3) := by decide +kernel
theorem dX7_statement_136 : decode cX7_statement 136 = .ok (.invokevirtual 397, 3) := by decide +kernel
theorem dX7_statement_139 : decode cX7_statement 139 = .ok (.ifCond .eq 11, 3) := by decide +kernel
theorem dX7_statement_142 : decode cX7_statement 142 = .ok (.aload_n 0, 1) := by decide +kernel
theorem dX7_statement_143 : decode cX7_statement 143 = .ok (.iconst 0, 1) := by decide +kernel
theorem dX7_statement_144 : decode cX7_statement 144 = .ok (.invokevirtual 463, 3) := by decide +kernel
theorem dX7_statement_147 : decode cX7_statement 147 = .ok (.goto 12, 3) := by decide +kernel
theorem dX7_statement_150 : decode cX7_statement 150 = .ok (.aload_n 0, 1) := by decide +kernel
theorem dX7_statement_151 : decode cX7_statement 151 = .ok (.iconst 1, 1) := by decide +kernel
theorem dX7_statement_152 : decode cX7_statement 152 = .ok (.aload_n 0, 1) := by decide +kernel
theorem dX7_statement_153 : decode cX7_statement 153 = .ok (.getfield 23, 3) := by decide +kernel
theorem dX7_statement_156 : decode cX7_statement 156 = .ok (.invokevirtual 299, 3) := by decide +kernel
theorem dX7_statement_159 : decode cX7_statement 159 = .ok (.return_, 1) := by decide +kernel
set_option maxRecDepth 20000 in
theorem ggX7_finishes_X7_lex : GoodIn wsX7_finishes wsX7_lex := goodIn_r _ [9, 10, 11, 12, 13, 8, 14, 1, 15, 67, 68, 69, 70, 71, 72, 73, 74, 75, 76, 77, 78, 79, 80, 81, 82, 83, 84, 85, 86, 87, 88, 89, 90, 91, 92, 93, 94, 95, 96, 97, 98, 99, 100, 101, 102, 103, 104, 105, 106, 107, 108, 109, 110, 111, 112, 113, 114, 115, 116, 117, 118, 119, 120, 121, 122, 123, 124, 125, 126, 127, 128, 129, 130, 131, 132, 133, 134, 135, 136, 137, 138, 139, 140, 141, 142, 143, 144, 145, 146, 147, 148, 149, 150, 151, 152, 153, 154, 155, 156, 157, 158] rfl (by decide +kernel)
set_option maxRecDepth 20000 in
theorem gX7_finishes_X7_lex : GoodIn wsX7_finishes (wsV RX7 314 RX7 yX7_lex wsX7_lex) := goodIn_app (goodIn_of _ (by decide +kernel)) ggX7_finishes_X7_lex
set_option maxRecDepth 20000 in
theorem ggX7_finishes_X7_isSign : GoodIn wsX7_finishes wsX7_isSign := goodIn_r _ [19, 20, 21, 67, 68, 69, 70, 71, 72, 73, 74, 75, 76, 77, 78, 79, 80, 81, 82, 83, 84, 85, 86, 87, 88, 89, 90, 91, 92, 93, 94, 95, 96, 97, 98, 99, 100, 101, 102, 103, 104, 105, 106, 107, 108, 109, 110, 111, 112, 113, 114, 115, 116, 117, 118, 119, 120, 121, 122, 123, 124, 125, 126, 127, 128, 129, 130, 131, 132, 133, 134, 135, 136, 137, 138, 139, 140, 141, 142, 143, 144, 145, 146, 147, 148, 149, 150, 151, 152, 153, 154, 155, 156, 157, 158] rfl (by decide +kernel)
set_option maxRecDepth 20000 in
theorem gX7_finishes_X7_isSign : GoodIn wsX7_finishes (wsV RX7 317 RX7 yX7_isSign wsX7_isSign) := goodIn_app (goodIn_of _ (by decide +kernel)) ggX7_finishes_X7_isSign
set_option maxRecDepth 20000 in
theorem ggX7_finishes_X7_blame : GoodIn wsX7_finishes wsX7_blame := goodIn_r _ [14, 1, 15, 67, 68, 69, 70, 71, 72, 73, 74, 75, 76, 77, 78, 79, 80, 81, 82, 83, 84, 85, 86, 87, 88, 89, 90, 91, 92, 93, 94, 95, 96, 97, 98, 99, 100, 101, 102, 103, 104, 105, 106, 107, 108, 109, 110, 111, 112, 113, 114, 115, 116, 117, 118, 119, 120, 121, 122, 123, 124, 125, 126, 127, 128, 129, 130, 131, 132, 133, 134, 135, 136, 137, 138, 139, 140, 141, 142, 143, 144, 145, 146, 147, 148, 149, 150, 151, 152, 153, 154, 155, 156, 157, 158] rfl (by decide +kernel)
set_option maxRecDepth 20000 in
theorem gX7_finishes_X7_blame : GoodIn wsX7_finishes (wsV RX7 299 RX7 yX7_blame wsX7_blame) := goodIn_app (goodIn_of _ (by decide +kernel)) ggX7_finishes_X7_blame
set_option maxRecDepth 20000 in
theorem ggX7_finishes_X7_must : GoodIn wsX7_finishes wsX7_must := goodIn_r _ [25, 26, 1, 5, 6, 7, 8, 9, 10, 11, 12, 13, 14, 15, 16, 17, 18, 19, 20, 21, 27, 28, 29, 30, 2, 3, 4, 31, 32, 33, 34, 35, 36, 37, 38, 39, 40, 41, 42, 43, 44, 45, 46, 47, 48, 49, 50, 51, 52, 53, 54, 55, 56, 57, 58, 59, 60, 61, 62, 63, 64, 65, 66, 67, 68, 69, 70, 71, 72, 73, 74, 75, 76, 77, 78, 79, 80, 81, 82, 83, 84, 85, 86, 87, 88, 89, 90, 91, 92, 93, 94, 95, 96, 97, 98, 99, 100, 101, 102, 103, 104, 105, 106, 107, 108, 109, 110, 111, 112, 113, 114, 115, 116, 117, 118, 119, 120, 121, 122, 123, 124, 125, 126, 127, 128, 129, 130, 131, 132, 133, 134, 135, 136, 137, 138, 139, 140, 141, 142, 143, 144, 145, 146, 147, 148, 149, 150, 151, 152, 153, 154, 155, 156, 157, 158] rfl (by decide +kernel)
set_option maxRecDepth 20000 in
theorem gX7_finishes_X7_must : GoodIn wsX7_finishes (wsV RX7 466 RX7 yX7_must wsX7_must) := goodIn_app (goodIn_of _ (by decide +kernel)) ggX7_finishes_X7_must
theorem dX7_finishes_0 : decode cX7_finishes 0 = .ok (.aload_n 0, 1) := by decide +kernel
theorem dX7_finishes_1 : decode cX7_finishes 1 = .ok (.invokevirtual 314, 3) := by decide +kernel
theorem dX7_finishes_4 : decode cX7_finishes 4 = .ok (.aload_n 0, 1) := by decide +kernel
theorem dX7_finishes_5 : decode cX7_finishes 5 = .ok (.getfield 36, 3) := by decide +kernel
theorem dX7_finishes_8 : decode cX7_finishes 8 = .ok (.ifCond .le 4, 3) := by decide +kernel
theorem dX7_finishes_11 : decode cX7_finishes 11 = .ok (.return_, 1) := by decide +kernel
theorem dX7_finishes_12 : decode cX7_finishes 12 = .ok (.aload_n 0, 1) := by decide +kernel
theorem dX7_finishes_13 : decode cX7_finishes 13 = .ok (.getfield 26, 3) := by decide +kernel
theorem dX7_finishes_16 : decode cX7_finishes 16 = .ok (.istore_n 2, 1) := by decide +kernel
theorem dX7_finishes_17 : decode cX7_finishes 17 = .ok (.iload_n 2, 1) := by decide +kernel
theorem dX7_finishes_18 : decode cX7_finishes 18 = .ok (.aload_n 0, 1) := by decide +kernel
theorem dX7_finishes_19 : decode cX7_finishes 19 = .ok (.getfield 17, 3) := by decide +kernel
theorem dX7_finishes_22 : decode cX7_finishes 22 = .ok (.if_icmp .ge 31, 3) := by decide +kernel
theorem dX7_finishes_25 : decode cX7_finishes 25 = .ok (.aload_n 0, 1) := by decide +kernel
theorem dX7_finishes_26 : decode cX7_finishes 26 = .ok (.getfield 7, 3) := by decide +kernel
theorem dX7_finishes_29 : decode cX7_finishes 29 = .ok (.iload_n 2, 1) := by decide +kernel
theorem dX7_finishes_30 : decode cX7_finishes 30 = .ok (.iaload, 1) := by decide +kernel
theorem dX7_finishes_31 : decode cX7_finishes 31 = .ok (.bipush 32, 2) := by decide +kernel
theorem dX7_finishes_33 : decode cX7_finishes 33 = .ok (.if_icmp .eq 14, 3) := by decide +kernel
theorem dX7_finishes_36 : decode cX7_finishes 36 = .ok (.aload_n 0, 1) := by decide +kernel
theorem dX7_finishes_37 : decode cX7_finishes 37 = .ok (.getfield 7, 3) := by decide +kernel
theorem dX7_finishes_40 : decode cX7_finishes 40 = .ok (.iload_n 2, 1) := by decide +kernel
theorem dX7_finishes_41 : decode cX7_finishes 41 = .ok (.iaload, 1) := by decide +kernel
theorem dX7_finishes_42 : decode cX7_finishes 42 = .ok (.bipush 10, 2) := by decide +kernel
theorem dX7_finishes_44 : decode cX7_finishes 44 = .ok (.if_icmp .ne 9, 3) := by decide +kernel
theorem dX7_finishes_47 : decode cX7_finishes 47 = .ok (.iinc 2 1, 3) := by decide +kernel
theorem dX7_finishes_50 : decode cX7_finishes 50 = .ok (.goto (-33), 3) := by decide +kernel
theorem dX7_finishes_53 : decode cX7_finishes 53 = .ok (.aload_n 0, 1) := by decide +kernel
theorem dX7_finishes_54 : decode cX7_finishes 54 = .ok (.bipush 59, 2) := by decide +kernel
theorem dX7_finishes_56 : decode cX7_finishes 56 = .ok (.invokevirtual 317, 3) := by decide +kernel
theorem dX7_finishes_59 : decode cX7_finishes 59 = .ok (.ifCond .eq 24, 3) := by decide +kernel
theorem dX7_finishes_62 : decode cX7_finishes 62 = .ok (.iload_n 1, 1) := by decide +kernel
theorem dX7_finishes_63 : decode cX7_finishes 63 = .ok (.bipush 80, 2) := by decide +kernel
theorem dX7_finishes_65 : decode cX7_finishes 65 = .ok (.if_icmp .ne 18, 3) := by decide +kernel
theorem dX7_finishes_68 : decode cX7_finishes 68 = .ok (.iload_n 2, 1) := by decide +kernel
theorem dX7_finishes_69 : decode cX7_finishes 69 = .ok (.aload_n 0, 1) := by decide +kernel
theorem dX7_finishes_70 : decode cX7_finishes 70 = .ok (.getfield 17, 3) := by decide +kernel
theorem dX7_finishes_73 : decode cX7_finishes 73 = .ok (.if_icmp .ge 10, 3) := by decide +kernel
theorem dX7_finishes_76 : decode cX7_finishes 76 = .ok (.aload_n 0, 1) := by decide +kernel
theorem dX7_finishes_77 : decode cX7_finishes 77 = .ok (.bipush 6, 2) := by decide +kernel
theorem dX7_finishes_79 : decode cX7_finishes 79 = .ok (.iload_n 2, 1) := by decide +kernel
theorem dX7_finishes_80 : decode cX7_finishes 80 = .ok (.invokevirtual 299, 3) := by decide +kernel
theorem dX7_finishes_83 : decode cX7_finishes 83 = .ok (.aload_n 0, 1) := by decide +kernel
theorem dX7_finishes_84 : decode cX7_finishes 84 = .ok (.bipush 59, 2) := by decide +kernel
theorem dX7_finishes_86 : decode cX7_finishes 86 = .ok (.invokevirtual 466, 3) := by decide +kernel
theorem dX7_finishes_89 : decode cX7_finishes 89 = .ok (.return_, 1) := by decide +kernel
set_option maxRecDepth 20000 in
theorem ggX7_shore_X7_ahead : GoodIn wsX7_shore wsX7_ahead := goodIn_r _ [24, 3, 2, 25, 26, 17, 27, 28, 29, 30, 31, 23, 32, 33, 34, 35, 36, 37, 38, 39, 40, 41, 42, 43, 44, 45, 46, 47, 48, 49, 50, 51, 52, 53, 54, 55, 56, 57, 58, 59, 60, 61, 62, 63, 64, 240, 241, 242, 243, 244, 245, 246, 247, 248, 249, 250, 251, 252, 253, 254, 255, 256, 257, 258, 259, 260, 261, 262, 263, 264, 265, 266, 267, 268, 269, 270, 271, 272, 273, 274, 275, 276, 277, 278, 279, 280, 281, 282, 283, 284, 285, 286, 287, 288, 289, 290, 291, 292, 293, 294, 295, 296, 297, 298, 299, 300, 301, 302, 303, 304, 305, 306, 307, 308, 309, 310, 311, 312, 313, 314, 315, 316, 317, 318, 319, 320, 321, 322, 323, 324, 325, 326, 327, 328, 329, 330, 331] rfl (by decide +kernel)
set_option maxRecDepth 20000 in
theorem gX7_shore_X7_ahead : GoodIn wsX7_shore (wsV RX7 320 RX7 yX7_ahead wsX7_ahead) := goodIn_app (goodIn_of _ (by decide +kernel)) ggX7_shore_X7_ahead
set_option maxRecDepth 20000 in
theorem ggX7_shore_X7_statement : GoodIn wsX7_shore wsX7_statement := goodIn_r _ [68, 4, 40, 44, 49, 50, 51, 52, 53, 54, 26, 69, 70, 71, 23, 72, 27, 73, 74, 75, 76, 5, 77, 78, 79, 80, 17, 29, 81, 82, 83, 84, 8, 7, 85, 41, 86, 42, 87, 88, 43, 89, 90, 91, 92, 20, 21, 22, 24, 3, 2, 25, 28, 30, 31, 32, 33, 34, 35, 36, 37, 38, 39, 45, 46, 47, 48, 55, 56, 57, 58, 59, 60, 61, 62, 63, 64, 93, 94, 95, 96, 97, 98, 99, 100, 101, 102, 103, 104, 9, 105, 106, 107, 108, 109, 110, 111, 112, 113, 114, 115, 116, 117, 118, 119, 120, 121, 122, 123, 124, 125, 126, 127, 128, 129, 130, 131, 132, 133, 134, 135, 136, 137, 138, 139, 140, 10, 141, 142, 143, 144, 11, 16, 145, 146, 147, 148, 149, 150, 151, 152, 153, 154, 155, 156, 157, 158, 159, 160, 161, 162, 163, 164, 165, 166, 167, 168, 169, 170, 171, 172, 173, 174, 175, 176, 177, 178, 179, 180, 181, 182, 183, 184, 185, 186, 187, 188, 189, 190, 191, 192, 193, 194, 195, 196, 197, 198, 199, 200, 201, 202, 203, 12, 204, 205, 206, 207, 208, 13, 209, 210, 211, 212, 213, 14, 15, 240, 241, 242, 243, 244, 245, 246, 247, 248, 249, 250, 251, 252, 253, 254, 255, 256, 257, 258, 259, 260, 261, 262, 263, 264, 265, 266, 267, 268, 269, 270, 271, 272, 273, 274, 275, 276, 277, 278, 279, 280, 281, 282, 283, 284, 285, 286, 287, 288, 289, 290, 291, 292, 293, 294, 295, 296, 297, 298, 299, 300, 301, 302, 303, 304, 305, 306, 307, 308, 309, 310, 311, 312, 313, 314, 315, 316, 317, 318, 319, 320, 321, 322, 323, 324, 325, 326, 327, 328, 329, 330, 331] rfl (by decide +kernel)
set_option maxRecDepth 20000 in
theorem gX7_shore_X7_statement : GoodIn wsX7_shore (wsV RX7 468 RX7 yX7_statement wsX7_statement) := goodIn_app (goodIn_of _ (by decide +kernel)) ggX7_shore_X7_statement
set_option maxRecDepth 20000 in
theorem ggX7_shore_X7_finishes : GoodIn wsX7_shore wsX7_finishes := goodIn_r _ [217, 4, 3, 2, 25, 69, 70, 71, 23, 72, 27, 73, 74, 75, 76, 5, 175, 176, 177, 178, 17, 28, 218, 219, 220, 221, 26, 20, 21, 22, 24, 29, 30, 31, 32, 33, 34, 35, 36, 37, 38, 39, 40, 41, 42, 43, 44, 45, 46, 47, 48, 49, 50, 51, 52, 53, 54, 55, 56, 57, 58, 59, 60, 61, 62, 63, 64, 240, 241, 242, 243, 244, 245, 246, 247, 248, 249, 250, 251, 252, 253, 254, 255, 256, 257, 258, 259, 260, 261, 262, 263, 264, 265, 266, 267, 268, 269, 270, 271, 272, 273, 274, 275, 276, 277, 278, 279, 280, 281, 282, 283, 284, 285, 286, 287, 288, 289, 290, 291, 292, 293, 294, 295, 296, 297, 298, 299, 300, 301, 302, 303, 304, 305, 306, 307, 308, 309, 310, 311, 312, 313, 314, 315, 316, 317, 318, 319, 320, 321, 322, 323, 324, 325, 326, 327, 328, 329, 330, 331] rfl (by decide +kernel)
set_option maxRecDepth 20000 in
theorem gX7_shore_X7_finishes : GoodIn wsX7_shore (wsV RX7 471 RX7 yX7_finishes wsX7_finishes) := goodIn_app (goodIn_of _ (by decide +kernel)) ggX7_shore_X7_finishes
set_option maxRecDepth 20000 in
theorem ggX7_shore_X7_refuses : GoodIn wsX7_shore wsX7_refuses := goodIn_r _ [225, 226, 240, 241, 242, 243, 244, 245, 246, 247, 248, 249, 250, 251, 252, 253, 254, 255, 256, 257, 258, 259, 260, 261, 262, 263, 264, 265, 266, 267, 268, 269, 270, 271, 272, 273, 274, 275, 276, 277, 278, 279, 280, 281, 282, 283, 284, 285, 286, 287, 288, 289, 290, 291, 292, 293, 294, 295, 296, 297, 298, 299, 300, 301, 302, 303, 304, 305, 306, 307, 308, 309, 310, 311, 312, 313, 314, 315, 316, 317, 318, 319, 320, 321, 322, 323, 324, 325, 326, 327, 328, 329, 330, 331] rfl (by decide +kernel)
set_option maxRecDepth 20000 in
theorem gX7_shore_X7_refuses : GoodIn wsX7_shore (wsV RX7 291 RX7 yX7_refuses wsX7_refuses) := goodIn_app (goodIn_of _ (by decide +kernel)) ggX7_shore_X7_refuses
set_option maxRecDepth 20000 in
theorem ggX7_shore_X7_begin : GoodIn wsX7_shore wsX7_begin := goodIn_r _ [230, 231, 10, 6, 232, 233, 234, 235, 236, 237, 238, 239, 240, 241, 242, 243, 244, 245, 246, 247, 248, 249, 250, 251, 252, 253, 254, 255, 256, 257, 258, 259, 260, 261, 262, 263, 264, 265, 266, 267, 268, 269, 270, 271, 272, 273, 274, 275, 276, 277, 278, 279, 280, 281, 282, 283, 284, 285, 286, 287, 288, 289, 290, 291, 292, 293, 294, 295, 296, 297, 298, 299, 300, 301, 302, 303, 304, 305, 306, 307, 308, 309, 310, 311, 312, 313, 314, 315, 316, 317, 318, 319, 320, 321, 322, 323, 324, 325, 326, 327, 328, 329, 330, 331] rfl (by decide +kernel)
set_option maxRecDepth 20000 in
theorem gX7_shore_X7_begin : GoodIn wsX7_shore (wsV RX7 474 RX7 yX7_begin wsX7_begin) := goodIn_app (goodIn_of _ (by decide +kernel)) ggX7_shore_X7_begin
theorem dX7_shore_0 : decode cX7_shore 0 = .ok (.aload_n 0, 1) := by decide +kernel
theorem dX7_shore_1 : decode cX7_shore 1 = .ok (.aload_n 0, 1) := by decide +kernel
theorem dX7_shore_2 : decode cX7_shore 2 = .ok (.getfield 13, 3) := by decide +kernel
theorem dX7_shore_5 : decode cX7_shore 5 = .ok (.putfield 17, 3) := by decide +kernel
theorem dX7_shore_8 : decode cX7_shore 8 = .ok (.aload_n 0, 1) := by decide +kernel
theorem dX7_shore_9 : decode cX7_shore 9 = .ok (.iconst 0, 1) := by decide +kernel
theorem dX7_shore_10 : decode cX7_shore 10 = .ok (.putfield 13, 3) := by decide +kernel
theorem dX7_shore_13 : decode cX7_shore 13 = .ok (.aload_n 0, 1) := by decide +kernel
theorem dX7_shore_14 : decode cX7_shore 14 = .ok (.iconst 0, 1) := by decide +kernel
theorem dX7_shore_15 : decode cX7_shore 15 = .ok (.putfield 26, 3) := by decide +kernel
theorem dX7_shore_18 : decode cX7_shore 18 = .ok (.aload_n 0, 1) := by decide +kernel
theorem dX7_shore_19 : decode cX7_shore 19 = .ok (.iconst 0, 1) := by decide +kernel
theorem dX7_shore_20 : decode cX7_shore 20 = .ok (.putfield 36, 3) := by decide +kernel
theorem dX7_shore_23 : decode cX7_shore 23 = .ok (.aload_n 0, 1) := by decide +kernel
theorem dX7_shore_24 : decode cX7_shore 24 = .ok (.iconst (-1), 1) := by decide +kernel
theorem dX7_shore_25 : decode cX7_shore 25 = .ok (.putfield 39, 3) := by decide +kernel
theorem dX7_shore_28 : decode cX7_shore 28 = .ok (.aload_n 0, 1) := by decide +kernel
theorem dX7_shore_29 : decode cX7_shore 29 = .ok (.iconst 1, 1) := by decide +kernel
theorem dX7_shore_30 : decode cX7_shore 30 = .ok (.aload_n 0, 1) := by decide +kernel
theorem dX7_shore_31 : decode cX7_shore 31 = .ok (.getfield 51, 3) := by decide +kernel
theorem dX7_shore_34 : decode cX7_shore 34 = .ok (.isub, 1) := by decide +kernel
theorem dX7_shore_35 : decode cX7_shore 35 = .ok (.putfield 124, 3) := by decide +kernel
theorem dX7_shore_38 : decode cX7_shore 38 = .ok (.aload_n 0, 1) := by decide +kernel
theorem dX7_shore_39 : decode cX7_shore 39 = .ok (.getfield 54, 3) := by decide +kernel
theorem dX7_shore_42 : decode cX7_shore 42 = .ok (.aload_n 0, 1) := by decide +kernel
theorem dX7_shore_43 : decode cX7_shore 43 = .ok (.getfield 124, 3) := by decide +kernel
theorem dX7_shore_46 : decode cX7_shore 46 = .ok (.iconst 0, 1) := by decide +kernel
theorem dX7_shore_47 : decode cX7_shore 47 = .ok (.iastore, 1) := by decide +kernel
theorem dX7_shore_48 : decode cX7_shore 48 = .ok (.aload_n 0, 1) := by decide +kernel
theorem dX7_shore_49 : decode cX7_shore 49 = .ok (.getfield 66, 3) := by decide +kernel
theorem dX7_shore_52 : decode cX7_shore 52 = .ok (.aload_n 0, 1) := by decide +kernel
theorem dX7_shore_53 : decode cX7_shore 53 = .ok (.getfield 124, 3) := by decide +kernel
theorem dX7_shore_56 : decode cX7_shore 56 = .ok (.iconst 0, 1) := by decide +kernel
theorem dX7_shore_57 : decode cX7_shore 57 = .ok (.iastore, 1) := by decide +kernel
theorem dX7_shore_58 : decode cX7_shore 58 = .ok (.aload_n 0, 1) := by decide +kernel
theorem dX7_shore_59 : decode cX7_shore 59 = .ok (.getfield 81, 3) := by decide +kernel
theorem dX7_shore_62 : decode cX7_shore 62 = .ok (.aload_n 0, 1) := by decide +kernel
theorem dX7_shore_63 : decode cX7_shore 63 = .ok (.getfield 124, 3) := by decide +kernel
theorem dX7_shore_66 : decode cX7_shore 66 = .ok (.iconst 0, 1) := by decide +kernel
theorem dX7_shore_67 : decode cX7_shore 67 = .ok (.iastore, 1) := by decide +kernel
theorem dX7_shore_68 : decode cX7_shore 68 = .ok (.aload_n 0, 1) := by decide +kernel
theorem dX7_shore_69 : decode cX7_shore 69 = .ok (.getfield 84, 3) := by decide +kernel
theorem dX7_shore_72 : decode cX7_shore 72 = .ok (.aload_n 0, 1) := by decide +kernel
theorem dX7_shore_73 : decode cX7_shore 73 = .ok (.getfield 124, 3) := by decide +kernel
theorem dX7_shore_76 : decode cX7_shore 76 = .ok (.iconst (-1), 1) := by decide +kernel
theorem dX7_shore_77 : decode cX7_shore 77 = .ok (.iastore, 1) := by decide +kernel
theorem dX7_shore_78 : decode cX7_shore 78 = .ok (.aload_n 0, 1) := by decide +kernel
theorem dX7_shore_79 : decode cX7_shore 79 = .ok (.getfield 90, 3) := by decide +kernel
theorem dX7_shore_82 : decode cX7_shore 82 = .ok (.aload_n 0, 1) := by decide +kernel
theorem dX7_shore_83 : decode cX7_shore 83 = .ok (.getfield 124, 3) := by decide +kernel
theorem dX7_shore_86 : decode cX7_shore 86 = .ok (.iconst (-1), 1) := by decide +kernel
theorem dX7_shore_87 : decode cX7_shore 87 = .ok (.iastore, 1) := by decide +kernel
theorem dX7_shore_88 : decode cX7_shore 88 = .ok (.aload_n 0, 1) := by decide +kernel
theorem dX7_shore_89 : decode cX7_shore 89 = .ok (.getfield 96, 3) := by decide +kernel
theorem dX7_shore_92 : decode cX7_shore 92 = .ok (.aload_n 0, 1) := by decide +kernel
theorem dX7_shore_93 : decode cX7_shore 93 = .ok (.getfield 124, 3) := by decide +kernel
theorem dX7_shore_96 : decode cX7_shore 96 = .ok (.iconst (-1), 1) := by decide +kernel
theorem dX7_shore_97 : decode cX7_shore 97 = .ok (.iastore, 1) := by decide +kernel
theorem dX7_shore_98 : decode cX7_shore 98 = .ok (.aload_n 0, 1) := by decide +kernel
theorem dX7_shore_99 : decode cX7_shore 99 = .ok (.getfield 102, 3) := by decide +kernel
theorem dX7_shore_102 : decode cX7_shore 102 = .ok (.aload_n 0, 1) := by decide +kernel
theorem dX7_shore_103 : decode cX7_shore 103 = .ok (.getfield 124, 3) := by decide +kernel
theorem dX7_shore_106 : decode cX7_shore 106 = .ok (.bipush 100, 2) := by decide +kernel
theorem dX7_shore_108 : decode cX7_shore 108 = .ok (.iastore, 1) := by decide +kernel
theorem dX7_shore_109 : decode cX7_shore 109 = .ok (.aload_n 0, 1) := by decide +kernel
theorem dX7_shore_110 : decode cX7_shore 110 = .ok (.getfield 105, 3) := by decide +kernel
theorem dX7_shore_113 : decode cX7_shore 113 = .ok (.aload_n 0, 1) := by decide +kernel
theorem dX7_shore_114 : decode cX7_shore 114 = .ok (.getfield 124, 3) := by decide +kernel
theorem dX7_shore_117 : decode cX7_shore 117 = .ok (.iconst 0, 1) := by decide +kernel
theorem dX7_shore_118 : decode cX7_shore 118 = .ok (.iastore, 1) := by decide +kernel
theorem dX7_shore_119 : decode cX7_shore 119 = .ok (.aload_n 0, 1) := by decide +kernel
theorem dX7_shore_120 : decode cX7_shore 120 = .ok (.iconst 0, 1) := by decide +kernel
theorem dX7_shore_121 : decode cX7_shore 121 = .ok (.putfield 121, 3) := by decide +kernel
theorem dX7_shore_124 : decode cX7_shore 124 = .ok (.iconst 0, 1) := by decide +kernel
theorem dX7_shore_125 : decode cX7_shore 125 = .ok (.istore_n 1, 1) := by decide +kernel
theorem dX7_shore_126 : decode cX7_shore 126 = .ok (.aload_n 0, 1) := by decide +kernel
theorem dX7_shore_127 : decode cX7_shore 127 = .ok (.invokevirtual 320, 3) := by decide +kernel
theorem dX7_shore_130 : decode cX7_shore 130 = .ok (.aload_n 0, 1) := by decide +kernel
theorem dX7_shore_131 : decode cX7_shore 131 = .ok (.getfield 36, 3) := by decide +kernel
theorem dX7_shore_134 : decode cX7_shore 134 = .ok (.ifCond .ne 25, 3) := by decide +kernel
theorem dX7_shore_137 : decode cX7_shore 137 = .ok (.aload_n 0, 1) := by decide +kernel
theorem dX7_shore_138 : decode cX7_shore 138 = .ok (.getfield 20, 3) := by decide +kernel
theorem dX7_shore_141 : decode cX7_shore 141 = .ok (.ifCond .eq 18, 3) := by decide +kernel
theorem dX7_shore_144 : decode cX7_shore 144 = .ok (.aload_n 0, 1) := by decide +kernel
theorem dX7_shore_145 : decode cX7_shore 145 = .ok (.invokevirtual 468, 3) := by decide +kernel
theorem dX7_shore_148 : decode cX7_shore 148 = .ok (.iinc 1 1, 3) := by decide +kernel
theorem dX7_shore_151 : decode cX7_shore 151 = .ok (.aload_n 0, 1) := by decide +kernel
theorem dX7_shore_152 : decode cX7_shore 152 = .ok (.iload_n 1, 1) := by decide +kernel
theorem dX7_shore_153 : decode cX7_shore 153 = .ok (.invokevirtual 471, 3) := by decide +kernel
theorem dX7_shore_156 : decode cX7_shore 156 = .ok (.goto (-26), 3) := by decide +kernel
theorem dX7_shore_159 : decode cX7_shore 159 = .ok (.aload_n 0, 1) := by decide +kernel
theorem dX7_shore_160 : decode cX7_shore 160 = .ok (.aload_n 0, 1) := by decide +kernel
theorem dX7_shore_161 : decode cX7_shore 161 = .ok (.getfield 36, 3) := by decide +kernel
theorem dX7_shore_164 : decode cX7_shore 164 = .ok (.putfield 42, 3) := by decide +kernel
theorem dX7_shore_167 : decode cX7_shore 167 = .ok (.aload_n 0, 1) := by decide +kernel
theorem dX7_shore_168 : decode cX7_shore 168 = .ok (.aload_n 0, 1) := by decide +kernel
theorem dX7_shore_169 : decode cX7_shore 169 = .ok (.getfield 39, 3) := by decide +kernel
theorem dX7_shore_172 : decode cX7_shore 172 = .ok (.putfield 45, 3) := by decide +kernel
theorem dX7_shore_175 : decode cX7_shore 175 = .ok (.aload_n 0, 1) := by decide +kernel
theorem dX7_shore_176 : decode cX7_shore 176 = .ok (.getfield 36, 3) := by decide +kernel
theorem dX7_shore_179 : decode cX7_shore 179 = .ok (.ifCond .le 9, 3) := by decide +kernel
theorem dX7_shore_182 : decode cX7_shore 182 = .ok (.aload_n 0, 1) := by decide +kernel
theorem dX7_shore_183 : decode cX7_shore 183 = .ok (.iconst 1, 1) := by decide +kernel
theorem dX7_shore_184 : decode cX7_shore 184 = .ok (.invokevirtual 291, 3) := by decide +kernel
theorem dX7_shore_187 : decode cX7_shore 187 = .ok (.ireturn, 1) := by decide +kernel
theorem dX7_shore_188 : decode cX7_shore 188 = .ok (.aload_n 0, 1) := by decide +kernel
theorem dX7_shore_189 : decode cX7_shore 189 = .ok (.aload_n 0, 1) := by decide +kernel
theorem dX7_shore_190 : decode cX7_shore 190 = .ok (.getfield 124, 3) := by decide +kernel
theorem dX7_shore_193 : decode cX7_shore 193 = .ok (.putfield 51, 3) := by decide +kernel
theorem dX7_shore_196 : decode cX7_shore 196 = .ok (.aload_n 0, 1) := by decide +kernel
theorem dX7_shore_197 : decode cX7_shore 197 = .ok (.invokevirtual 474, 3) := by decide +kernel
theorem dX7_shore_200 : decode cX7_shore 200 = .ok (.iload_n 1, 1) := by decide +kernel
theorem dX7_shore_201 : decode cX7_shore 201 = .ok (.ireturn, 1) := by decide +kernel
theorem dX7_fault_0 : decode cX7_fault 0 = .ok (.iload_n 1, 1) := by decide +kernel
theorem dX7_fault_1 : decode cX7_fault 1 = .ok (.ifCond .ne 10, 3) := by decide +kernel
theorem dX7_fault_4 : decode cX7_fault 4 = .ok (.aload_n 0, 1) := by decide +kernel
theorem dX7_fault_5 : decode cX7_fault 5 = .ok (.getfield 42, 3) := by decide +kernel
theorem dX7_fault_8 : decode cX7_fault 8 = .ok (.goto 16, 3) := by decide +kernel
theorem dX7_fault_11 : decode cX7_fault 11 = .ok (.iload_n 1, 1) := by decide +kernel
theorem dX7_fault_12 : decode cX7_fault 12 = .ok (.iconst 1, 1) := by decide +kernel
theorem dX7_fault_13 : decode cX7_fault 13 = .ok (.if_icmp .ne 10, 3) := by decide +kernel
theorem dX7_fault_16 : decode cX7_fault 16 = .ok (.aload_n 0, 1) := by decide +kernel
theorem dX7_fault_17 : decode cX7_fault 17 = .ok (.getfield 45, 3) := by decide +kernel
theorem dX7_fault_20 : decode cX7_fault 20 = .ok (.goto 4, 3) := by decide +kernel
theorem dX7_fault_23 : decode cX7_fault 23 = .ok (.iconst (-1), 1) := by decide +kernel
theorem dX7_fault_24 : decode cX7_fault 24 = .ok (.ireturn, 1) := by decide +kernel
theorem dX7_refuses_0 : decode cX7_refuses 0 = .ok (.aload_n 0, 1) := by decide +kernel
theorem dX7_refuses_1 : decode cX7_refuses 1 = .ok (.getfield 159, 3) := by decide +kernel
theorem dX7_refuses_4 : decode cX7_refuses 4 = .ok (.iload_n 1, 1) := by decide +kernel
theorem dX7_refuses_5 : decode cX7_refuses 5 = .ok (.dup2, 1) := by decide +kernel
theorem dX7_refuses_6 : decode cX7_refuses 6 = .ok (.iaload, 1) := by decide +kernel
theorem dX7_refuses_7 : decode cX7_refuses 7 = .ok (.iconst 1, 1) := by decide +kernel
theorem dX7_refuses_8 : decode cX7_refuses 8 = .ok (.iadd, 1) := by decide +kernel
theorem dX7_refuses_9 : decode cX7_refuses 9 = .ok (.iastore, 1) := by decide +kernel
theorem dX7_refuses_10 : decode cX7_refuses 10 = .ok (.iconst (-1), 1) := by decide +kernel
theorem dX7_refuses_11 : decode cX7_refuses 11 = .ok (.ireturn, 1) := by decide +kernel
set_option maxRecDepth 20000 in
theorem ggX7_status_X7_is : GoodIn wsX7_status wsX7_is := goodIn_r _ [5] rfl (by decide +kernel)
set_option maxRecDepth 20000 in
theorem gX7_status_X7_is : GoodIn wsX7_status (va_wsS RX7 381 yX7_is wsX7_is) := goodIn_app (goodIn_of _ (by decide +kernel)) ggX7_status_X7_is
theorem dX7_status_0 : decode cX7_status 0 = .ok (.iload_n 1, 1) := by decide +kernel
theorem dX7_status_1 : decode cX7_status 1 = .ok (.iconst 0, 1) := by decide +kernel
theorem dX7_status_2 : decode cX7_status 2 = .ok (.iconst 5, 1) := by decide +kernel
theorem dX7_status_3 : decode cX7_status 3 = .ok (.invokestatic 381, 3) := by decide +kernel
theorem dX7_status_6 : decode cX7_status 6 = .ok (.ifCond .eq 12, 3) := by decide +kernel
theorem dX7_status_9 : decode cX7_status 9 = .ok (.aload_n 0, 1) := by decide +kernel
theorem dX7_status_10 : decode cX7_status 10 = .ok (.getfield 159, 3) := by decide +kernel
theorem dX7_status_13 : decode cX7_status 13 = .ok (.iload_n 1, 1) := by decide +kernel
theorem dX7_status_14 : decode cX7_status 14 = .ok (.iaload, 1) := by decide +kernel
theorem dX7_status_15 : decode cX7_status 15 = .ok (.goto 4, 3) := by decide +kernel
theorem dX7_status_18 : decode cX7_status 18 = .ok (.iconst (-1), 1) := by decide +kernel
theorem dX7_status_19 : decode cX7_status 19 = .ok (.ireturn, 1) := by decide +kernel
theorem dX7_isThing_0 : decode cX7_isThing 0 = .ok (.iload_n 1, 1) := by decide +kernel
theorem dX7_isThing_1 : decode cX7_isThing 1 = .ok (.ifCond .lt 20, 3) := by decide +kernel
theorem dX7_isThing_4 : decode cX7_isThing 4 = .ok (.iload_n 1, 1) := by decide +kernel
theorem dX7_isThing_5 : decode cX7_isThing 5 = .ok (.aload_n 0, 1) := by decide +kernel
theorem dX7_isThing_6 : decode cX7_isThing 6 = .ok (.getfield 54, 3) := by decide +kernel
theorem dX7_isThing_9 : decode cX7_isThing 9 = .ok (.aload_n 0, 1) := by decide +kernel
theorem dX7_isThing_10 : decode cX7_isThing 10 = .ok (.getfield 51, 3) := by decide +kernel
theorem dX7_isThing_13 : decode cX7_isThing 13 = .ok (.iaload, 1) := by decide +kernel
theorem dX7_isThing_14 : decode cX7_isThing 14 = .ok (.if_icmp .ge 7, 3) := by decide +kernel
theorem dX7_isThing_17 : decode cX7_isThing 17 = .ok (.iconst 1, 1) := by decide +kernel
theorem dX7_isThing_18 : decode cX7_isThing 18 = .ok (.goto 4, 3) := by decide +kernel
theorem dX7_isThing_21 : decode cX7_isThing 21 = .ok (.iconst 0, 1) := by decide +kernel
theorem dX7_isThing_22 : decode cX7_isThing 22 = .ok (.ireturn, 1) := by decide +kernel
theorem dX7_isWish_0 : decode cX7_isWish 0 = .ok (.iload_n 1, 1) := by decide +kernel
theorem dX7_isWish_1 : decode cX7_isWish 1 = .ok (.ifCond .lt 20, 3) := by decide +kernel
theorem dX7_isWish_4 : decode cX7_isWish 4 = .ok (.iload_n 1, 1) := by decide +kernel
theorem dX7_isWish_5 : decode cX7_isWish 5 = .ok (.aload_n 0, 1) := by decide +kernel
theorem dX7_isWish_6 : decode cX7_isWish 6 = .ok (.getfield 66, 3) := by decide +kernel
theorem dX7_isWish_9 : decode cX7_isWish 9 = .ok (.aload_n 0, 1) := by decide +kernel
theorem dX7_isWish_10 : decode cX7_isWish 10 = .ok (.getfield 51, 3) := by decide +kernel
theorem dX7_isWish_13 : decode cX7_isWish 13 = .ok (.iaload, 1) := by decide +kernel
theorem dX7_isWish_14 : decode cX7_isWish 14 = .ok (.if_icmp .ge 7, 3) := by decide +kernel
theorem dX7_isWish_17 : decode cX7_isWish 17 = .ok (.iconst 1, 1) := by decide +kernel
theorem dX7_isWish_18 : decode cX7_isWish 18 = .ok (.goto 4, 3) := by decide +kernel
theorem dX7_isWish_21 : decode cX7_isWish 21 = .ok (.iconst 0, 1) := by decide +kernel
theorem dX7_isWish_22 : decode cX7_isWish 22 = .ok (.ireturn, 1) := by decide +kernel
theorem dX7_holds_0 : decode cX7_holds 0 = .ok (.iload_n 0, 1) := by decide +kernel
theorem dX7_holds_1 : decode cX7_holds 1 = .ok (.iload_n 1, 1) := by decide +kernel
theorem dX7_holds_2 : decode cX7_holds 2 = .ok (.ishr, 1) := by decide +kernel
theorem dX7_holds_3 : decode cX7_holds 3 = .ok (.iconst 1, 1) := by decide +kernel
theorem dX7_holds_4 : decode cX7_holds 4 = .ok (.iand, 1) := by decide +kernel
theorem dX7_holds_5 : decode cX7_holds 5 = .ok (.iconst 1, 1) := by decide +kernel
theorem dX7_holds_6 : decode cX7_holds 6 = .ok (.if_icmp .ne 7, 3) := by decide +kernel
theorem dX7_holds_9 : decode cX7_holds 9 = .ok (.iconst 1, 1) := by decide +kernel
theorem dX7_holds_10 : decode cX7_holds 10 = .ok (.goto 4, 3) := by decide +kernel
theorem dX7_holds_13 : decode cX7_holds 13 = .ok (.iconst 0, 1) := by decide +kernel
theorem dX7_holds_14 : decode cX7_holds 14 = .ok (.ireturn, 1) := by decide +kernel
theorem dX7_bits_0 : decode cX7_bits 0 = .ok (.iconst 0, 1) := by decide +kernel
theorem dX7_bits_1 : decode cX7_bits 1 = .ok (.istore_n 1, 1) := by decide +kernel
theorem dX7_bits_2 : decode cX7_bits 2 = .ok (.iload_n 0, 1) := by decide +kernel
theorem dX7_bits_3 : decode cX7_bits 3 = .ok (.istore_n 2, 1) := by decide +kernel
theorem dX7_bits_4 : decode cX7_bits 4 = .ok (.iload_n 2, 1) := by decide +kernel
theorem dX7_bits_5 : decode cX7_bits 5 = .ok (.ifCond .eq 15, 3) := by decide +kernel
theorem dX7_bits_8 : decode cX7_bits 8 = .ok (.iinc 1 1, 3) := by decide +kernel
theorem dX7_bits_11 : decode cX7_bits 11 = .ok (.iload_n 2, 1) := by decide +kernel
theorem dX7_bits_12 : decode cX7_bits 12 = .ok (.iload_n 2, 1) := by decide +kernel
theorem dX7_bits_13 : decode cX7_bits 13 = .ok (.iconst 1, 1) := by decide +kernel
theorem dX7_bits_14 : decode cX7_bits 14 = .ok (.isub, 1) := by decide +kernel
theorem dX7_bits_15 : decode cX7_bits 15 = .ok (.iand, 1) := by decide +kernel
theorem dX7_bits_16 : decode cX7_bits 16 = .ok (.istore_n 2, 1) := by decide +kernel
theorem dX7_bits_17 : decode cX7_bits 17 = .ok (.goto (-13), 3) := by decide +kernel
theorem dX7_bits_20 : decode cX7_bits 20 = .ok (.iload_n 1, 1) := by decide +kernel
theorem dX7_bits_21 : decode cX7_bits 21 = .ok (.ireturn, 1) := by decide +kernel
theorem dX7_copies_0 : decode cX7_copies 0 = .ok (.aload_n 0, 1) := by decide +kernel
theorem dX7_copies_1 : decode cX7_copies 1 = .ok (.getfield 162, 3) := by decide +kernel
theorem dX7_copies_4 : decode cX7_copies 4 = .ok (.iload_n 1, 1) := by decide +kernel
theorem dX7_copies_5 : decode cX7_copies 5 = .ok (.aload_n 0, 1) := by decide +kernel
theorem dX7_copies_6 : decode cX7_copies 6 = .ok (.getfield 162, 3) := by decide +kernel
theorem dX7_copies_9 : decode cX7_copies 9 = .ok (.iload_n 2, 1) := by decide +kernel
theorem dX7_copies_10 : decode cX7_copies 10 = .ok (.iaload, 1) := by decide +kernel
theorem dX7_copies_11 : decode cX7_copies 11 = .ok (.iastore, 1) := by decide +kernel
theorem dX7_copies_12 : decode cX7_copies 12 = .ok (.aload_n 0, 1) := by decide +kernel
theorem dX7_copies_13 : decode cX7_copies 13 = .ok (.getfield 165, 3) := by decide +kernel
theorem dX7_copies_16 : decode cX7_copies 16 = .ok (.iload_n 1, 1) := by decide +kernel
theorem dX7_copies_17 : decode cX7_copies 17 = .ok (.aload_n 0, 1) := by decide +kernel
theorem dX7_copies_18 : decode cX7_copies 18 = .ok (.getfield 165, 3) := by decide +kernel
theorem dX7_copies_21 : decode cX7_copies 21 = .ok (.iload_n 2, 1) := by decide +kernel
theorem dX7_copies_22 : decode cX7_copies 22 = .ok (.iaload, 1) := by decide +kernel
theorem dX7_copies_23 : decode cX7_copies 23 = .ok (.iastore, 1) := by decide +kernel
theorem dX7_copies_24 : decode cX7_copies 24 = .ok (.aload_n 0, 1) := by decide +kernel
theorem dX7_copies_25 : decode cX7_copies 25 = .ok (.getfield 168, 3) := by decide +kernel
theorem dX7_copies_28 : decode cX7_copies 28 = .ok (.iload_n 1, 1) := by decide +kernel
theorem dX7_copies_29 : decode cX7_copies 29 = .ok (.aload_n 0, 1) := by decide +kernel
theorem dX7_copies_30 : decode cX7_copies 30 = .ok (.getfield 168, 3) := by decide +kernel
theorem dX7_copies_33 : decode cX7_copies 33 = .ok (.iload_n 2, 1) := by decide +kernel
theorem dX7_copies_34 : decode cX7_copies 34 = .ok (.iaload, 1) := by decide +kernel
theorem dX7_copies_35 : decode cX7_copies 35 = .ok (.iastore, 1) := by decide +kernel
theorem dX7_copies_36 : decode cX7_copies 36 = .ok (.aload_n 0, 1) := by decide +kernel
theorem dX7_copies_37 : decode cX7_copies 37 = .ok (.getfield 171, 3) := by decide +kernel
theorem dX7_copies_40 : decode cX7_copies 40 = .ok (.iload_n 1, 1) := by decide +kernel
theorem dX7_copies_41 : decode cX7_copies 41 = .ok (.aload_n 0, 1) := by decide +kernel
theorem dX7_copies_42 : decode cX7_copies 42 = .ok (.getfield 171, 3) := by decide +kernel
theorem dX7_copies_45 : decode cX7_copies 45 = .ok (.iload_n 2, 1) := by decide +kernel
theorem dX7_copies_46 : decode cX7_copies 46 = .ok (.iaload, 1) := by decide +kernel
theorem dX7_copies_47 : decode cX7_copies 47 = .ok (.iastore, 1) := by decide +kernel
theorem dX7_copies_48 : decode cX7_copies 48 = .ok (.aload_n 0, 1) := by decide +kernel
theorem dX7_copies_49 : decode cX7_copies 49 = .ok (.getfield 174, 3) := by decide +kernel
theorem dX7_copies_52 : decode cX7_copies 52 = .ok (.iload_n 1, 1) := by decide +kernel
theorem dX7_copies_53 : decode cX7_copies 53 = .ok (.aload_n 0, 1) := by decide +kernel
theorem dX7_copies_54 : decode cX7_copies 54 = .ok (.getfield 174, 3) := by decide +kernel
theorem dX7_copies_57 : decode cX7_copies 57 = .ok (.iload_n 2, 1) := by decide +kernel
theorem dX7_copies_58 : decode cX7_copies 58 = .ok (.iaload, 1) := by decide +kernel
theorem dX7_copies_59 : decode cX7_copies 59 = .ok (.iastore, 1) := by decide +kernel
theorem dX7_copies_60 : decode cX7_copies 60 = .ok (.iconst 0, 1) := by decide +kernel
theorem dX7_copies_61 : decode cX7_copies 61 = .ok (.istore_n 3, 1) := by decide +kernel
theorem dX7_copies_62 : decode cX7_copies 62 = .ok (.iload_n 3, 1) := by decide +kernel
theorem dX7_copies_63 : decode cX7_copies 63 = .ok (.aload_n 0, 1) := by decide +kernel
theorem dX7_copies_64 : decode cX7_copies 64 = .ok (.getfield 174, 3) := by decide +kernel
theorem dX7_copies_67 : decode cX7_copies 67 = .ok (.iload_n 2, 1) := by decide +kernel
theorem dX7_copies_68 : decode cX7_copies 68 = .ok (.iaload, 1) := by decide +kernel
theorem dX7_copies_69 : decode cX7_copies 69 = .ok (.if_icmp .ge 97, 3) := by decide +kernel
theorem dX7_copies_72 : decode cX7_copies 72 = .ok (.aload_n 0, 1) := by decide +kernel
theorem dX7_copies_73 : decode cX7_copies 73 = .ok (.getfield 177, 3) := by decide +kernel
theorem dX7_copies_76 : decode cX7_copies 76 = .ok (.bipush 50, 2) := by decide +kernel
theorem dX7_copies_78 : decode cX7_copies 78 = .ok (.iload_n 1, 1) := by decide +kernel
theorem dX7_copies_79 : decode cX7_copies 79 = .ok (.imul, 1) := by decide +kernel
theorem dX7_copies_80 : decode cX7_copies 80 = .ok (.iload_n 3, 1) := by decide +kernel
theorem dX7_copies_81 : decode cX7_copies 81 = .ok (.iadd, 1) := by decide +kernel
theorem dX7_copies_82 : decode cX7_copies 82 = .ok (.aload_n 0, 1) := by decide +kernel
theorem dX7_copies_83 : decode cX7_copies 83 = .ok (.getfield 177, 3) := by decide +kernel
theorem dX7_copies_86 : decode cX7_copies 86 = .ok (.bipush 50, 2) := by decide +kernel
theorem dX7_copies_88 : decode cX7_copies 88 = .ok (.iload_n 2, 1) := by decide +kernel
theorem dX7_copies_89 : decode cX7_copies 89 = .ok (.imul, 1) := by decide +kernel
theorem dX7_copies_90 : decode cX7_copies 90 = .ok (.iload_n 3, 1) := by decide +kernel
theorem dX7_copies_91 : decode cX7_copies 91 = .ok (.iadd, 1) := by decide +kernel
theorem dX7_copies_92 : decode cX7_copies 92 = .ok (.iaload, 1) := by decide +kernel
theorem dX7_copies_93 : decode cX7_copies 93 = .ok (.iastore, 1) := by decide +kernel
theorem dX7_copies_94 : decode cX7_copies 94 = .ok (.aload_n 0, 1) := by decide +kernel
theorem dX7_copies_95 : decode cX7_copies 95 = .ok (.getfield 180, 3) := by decide +kernel
theorem dX7_copies_98 : decode cX7_copies 98 = .ok (.bipush 50, 2) := by decide +kernel
theorem dX7_copies_100 : decode cX7_copies 100 = .ok (.iload_n 1, 1) := by decide +kernel
theorem dX7_copies_101 : decode cX7_copies 101 = .ok (.imul, 1) := by decide +kernel
theorem dX7_copies_102 : decode cX7_copies 102 = .ok (.iload_n 3, 1) := by decide +kernel
theorem dX7_copies_103 : decode cX7_copies 103 = .ok (.iadd, 1) := by decide +kernel
theorem dX7_copies_104 : decode cX7_copies 104 = .ok (.aload_n 0, 1) := by decide +kernel
theorem dX7_copies_105 : decode cX7_copies 105 = .ok (.getfield 180, 3) := by decide +kernel
theorem dX7_copies_108 : decode cX7_copies 108 = .ok (.bipush 50, 2) := by decide +kernel
theorem dX7_copies_110 : decode cX7_copies 110 = .ok (.iload_n 2, 1) := by decide +kernel
theorem dX7_copies_111 : decode cX7_copies 111 = .ok (.imul, 1) := by decide +kernel
theorem dX7_copies_112 : decode cX7_copies 112 = .ok (.iload_n 3, 1) := by decide +kernel
theorem dX7_copies_113 : decode cX7_copies 113 = .ok (.iadd, 1) := by decide +kernel
theorem dX7_copies_114 : decode cX7_copies 114 = .ok (.iaload, 1) := by decide +kernel
theorem dX7_copies_115 : decode cX7_copies 115 = .ok (.iastore, 1) := by decide +kernel
theorem dX7_copies_116 : decode cX7_copies 116 = .ok (.aload_n 0, 1) := by decide +kernel
theorem dX7_copies_117 : decode cX7_copies 117 = .ok (.getfield 183, 3) := by decide +kernel
theorem dX7_copies_120 : decode cX7_copies 120 = .ok (.bipush 50, 2) := by decide +kernel
theorem dX7_copies_122 : decode cX7_copies 122 = .ok (.iload_n 1, 1) := by decide +kernel
theorem dX7_copies_123 : decode cX7_copies 123 = .ok (.imul, 1) := by decide +kernel
theorem dX7_copies_124 : decode cX7_copies 124 = .ok (.iload_n 3, 1) := by decide +kernel
theorem dX7_copies_125 : decode cX7_copies 125 = .ok (.iadd, 1) := by decide +kernel
theorem dX7_copies_126 : decode cX7_copies 126 = .ok (.aload_n 0, 1) := by decide +kernel
theorem dX7_copies_127 : decode cX7_copies 127 = .ok (.getfield 183, 3) := by decide +kernel
theorem dX7_copies_130 : decode cX7_copies 130 = .ok (.bipush 50, 2) := by decide +kernel
theorem dX7_copies_132 : decode cX7_copies 132 = .ok (.iload_n 2, 1) := by decide +kernel
theorem dX7_copies_133 : decode cX7_copies 133 = .ok (.imul, 1) := by decide +kernel
theorem dX7_copies_134 : decode cX7_copies 134 = .ok (.iload_n 3, 1) := by decide +kernel
theorem dX7_copies_135 : decode cX7_copies 135 = .ok (.iadd, 1) := by decide +kernel
theorem dX7_copies_136 : decode cX7_copies 136 = .ok (.iaload, 1) := by decide +kernel
theorem dX7_copies_137 : decode cX7_copies 137 = .ok (.iastore, 1) := by decide +kernel
theorem dX7_copies_138 : decode cX7_copies 138 = .ok (.aload_n 0, 1) := by decide +kernel
theorem dX7_copies_139 : decode cX7_copies 139 = .ok (.getfield 186, 3) := by decide +kernel
theorem dX7_copies_142 : decode cX7_copies 142 = .ok (.bipush 50, 2) := by decide +kernel
theorem dX7_copies_144 : decode cX7_copies 144 = .ok (.iload_n 1, 1) := by decide +kernel
theorem dX7_copies_145 : decode cX7_copies 145 = .ok (.imul, 1) := by decide +kernel
theorem dX7_copies_146 : decode cX7_copies 146 = .ok (.iload_n 3, 1) := by decide +kernel
theorem dX7_copies_147 : decode cX7_copies 147 = .ok (.iadd, 1) := by decide +kernel
theorem dX7_copies_148 : decode cX7_copies 148 = .ok (.aload_n 0, 1) := by decide +kernel
theorem dX7_copies_149 : decode cX7_copies 149 = .ok (.getfield 186, 3) := by decide +kernel
theorem dX7_copies_152 : decode cX7_copies 152 = .ok (.bipush 50, 2) := by decide +kernel
theorem dX7_copies_154 : decode cX7_copies 154 = .ok (.iload_n 2, 1) := by decide +kernel
theorem dX7_copies_155 : decode cX7_copies 155 = .ok (.imul, 1) := by decide +kernel
theorem dX7_copies_156 : decode cX7_copies 156 = .ok (.iload_n 3, 1) := by decide +kernel
theorem dX7_copies_157 : decode cX7_copies 157 = .ok (.iadd, 1) := by decide +kernel
theorem dX7_copies_158 : decode cX7_copies 158 = .ok (.iaload, 1) := by decide +kernel
theorem dX7_copies_159 : decode cX7_copies 159 = .ok (.iastore, 1) := by decide +kernel
theorem dX7_copies_160 : decode cX7_copies 160 = .ok (.iinc 3 1, 3) := by decide +kernel
theorem dX7_copies_163 : decode cX7_copies 163 = .ok (.goto (-101), 3) := by decide +kernel
theorem dX7_copies_166 : decode cX7_copies 166 = .ok (.return_, 1) := by decide +kernel
theorem dX7_begin_0 : decode cX7_begin 0 = .ok (.aload_n 0, 1) := by decide +kernel
theorem dX7_begin_1 : decode cX7_begin 1 = .ok (.getfield 162, 3) := by decide +kernel
theorem dX7_begin_4 : decode cX7_begin 4 = .ok (.iconst 0, 1) := by decide +kernel
theorem dX7_begin_5 : decode cX7_begin 5 = .ok (.aload_n 0, 1) := by decide +kernel
theorem dX7_begin_6 : decode cX7_begin 6 = .ok (.getfield 81, 3) := by decide +kernel
theorem dX7_begin_9 : decode cX7_begin 9 = .ok (.aload_n 0, 1) := by decide +kernel
theorem dX7_begin_10 : decode cX7_begin 10 = .ok (.getfield 51, 3) := by decide +kernel
theorem dX7_begin_13 : decode cX7_begin 13 = .ok (.iaload, 1) := by decide +kernel
theorem dX7_begin_14 : decode cX7_begin 14 = .ok (.iastore, 1) := by decide +kernel
theorem dX7_begin_15 : decode cX7_begin 15 = .ok (.aload_n 0, 1) := by decide +kernel
theorem dX7_begin_16 : decode cX7_begin 16 = .ok (.getfield 165, 3) := by decide +kernel
theorem dX7_begin_19 : decode cX7_begin 19 = .ok (.iconst 0, 1) := by decide +kernel
theorem dX7_begin_20 : decode cX7_begin 20 = .ok (.iconst 0, 1) := by decide +kernel
theorem dX7_begin_21 : decode cX7_begin 21 = .ok (.iastore, 1) := by decide +kernel
theorem dX7_begin_22 : decode cX7_begin 22 = .ok (.aload_n 0, 1) := by decide +kernel
theorem dX7_begin_23 : decode cX7_begin 23 = .ok (.getfield 168, 3) := by decide +kernel
theorem dX7_begin_26 : decode cX7_begin 26 = .ok (.iconst 0, 1) := by decide +kernel
theorem dX7_begin_27 : decode cX7_begin 27 = .ok (.iconst 0, 1) := by decide +kernel
theorem dX7_begin_28 : decode cX7_begin 28 = .ok (.iastore, 1) := by decide +kernel
theorem dX7_begin_29 : decode cX7_begin 29 = .ok (.aload_n 0, 1) := by decide +kernel
theorem dX7_begin_30 : decode cX7_begin 30 = .ok (.getfield 171, 3) := by decide +kernel
theorem dX7_begin_33 : decode cX7_begin 33 = .ok (.iconst 0, 1) := by decide +kernel
theorem dX7_begin_34 : decode cX7_begin 34 = .ok (.iconst 0, 1) := by decide +kernel
theorem dX7_begin_35 : decode cX7_begin 35 = .ok (.iastore, 1) := by decide +kernel
theorem dX7_begin_36 : decode cX7_begin 36 = .ok (.aload_n 0, 1) := by decide +kernel
theorem dX7_begin_37 : decode cX7_begin 37 = .ok (.getfield 174, 3) := by decide +kernel
theorem dX7_begin_40 : decode cX7_begin 40 = .ok (.iconst 0, 1) := by decide +kernel
theorem dX7_begin_41 : decode cX7_begin 41 = .ok (.iconst 0, 1) := by decide +kernel
theorem dX7_begin_42 : decode cX7_begin 42 = .ok (.iastore, 1) := by decide +kernel
theorem dX7_begin_43 : decode cX7_begin 43 = .ok (.aload_n 0, 1) := by decide +kernel
theorem dX7_begin_44 : decode cX7_begin 44 = .ok (.iconst 0, 1) := by decide +kernel
theorem dX7_begin_45 : decode cX7_begin 45 = .ok (.putfield 192, 3) := by decide +kernel
theorem dX7_begin_48 : decode cX7_begin 48 = .ok (.aload_n 0, 1) := by decide +kernel
theorem dX7_begin_49 : decode cX7_begin 49 = .ok (.iconst 0, 1) := by decide +kernel
theorem dX7_begin_50 : decode cX7_begin 50 = .ok (.putfield 246, 3) := by decide +kernel
theorem dX7_begin_53 : decode cX7_begin 53 = .ok (.aload_n 0, 1) := by decide +kernel
theorem dX7_begin_54 : decode cX7_begin 54 = .ok (.iconst (-1), 1) := by decide +kernel
theorem dX7_begin_55 : decode cX7_begin 55 = .ok (.putfield 216, 3) := by decide +kernel
theorem dX7_begin_58 : decode cX7_begin 58 = .ok (.aload_n 0, 1) := by decide +kernel
theorem dX7_begin_59 : decode cX7_begin 59 = .ok (.iconst (-1), 1) := by decide +kernel
theorem dX7_begin_60 : decode cX7_begin 60 = .ok (.putfield 255, 3) := by decide +kernel
theorem dX7_begin_63 : decode cX7_begin 63 = .ok (.return_, 1) := by decide +kernel
theorem dX7_ring_0 : decode cX7_ring 0 = .ok (.iconst 2, 1) := by decide +kernel
theorem dX7_ring_1 : decode cX7_ring 1 = .ok (.aload_n 0, 1) := by decide +kernel
theorem dX7_ring_2 : decode cX7_ring 2 = .ok (.getfield 189, 3) := by decide +kernel
theorem dX7_ring_5 : decode cX7_ring 5 = .ok (.iload_n 1, 1) := by decide +kernel
theorem dX7_ring_6 : decode cX7_ring 6 = .ok (.iadd, 1) := by decide +kernel
theorem dX7_ring_7 : decode cX7_ring 7 = .ok (.bipush 20, 2) := by decide +kernel
theorem dX7_ring_9 : decode cX7_ring 9 = .ok (.irem, 1) := by decide +kernel
theorem dX7_ring_10 : decode cX7_ring 10 = .ok (.iadd, 1) := by decide +kernel
theorem dX7_ring_11 : decode cX7_ring 11 = .ok (.ireturn, 1) := by decide +kernel
set_option maxRecDepth 20000 in
theorem ggX7_keeps_X7_ring : GoodIn wsX7_keeps wsX7_ring := goodIn_r _ [7, 2, 21, 22, 23, 24, 25, 26, 27, 28, 29, 30, 31, 32, 33, 34, 35, 36, 37, 38, 39, 40, 41, 42, 43, 44, 45, 46, 47, 48, 49, 50, 51, 52, 53, 54, 55, 56, 57, 58, 59, 60, 61, 62, 63, 64, 65, 66, 67, 68, 69, 70, 71, 72, 73, 74, 75, 76, 77, 78, 79, 80, 81, 82, 83, 84, 85, 86, 87, 88, 89, 90, 91, 92, 93, 94, 95, 96, 97, 98, 99, 100, 101, 102, 103, 104, 105, 106, 107, 108, 109, 110, 111, 112] rfl (by decide +kernel)
set_option maxRecDepth 20000 in
theorem gX7_keeps_X7_ring : GoodIn wsX7_keeps (wsV RX7 477 RX7 yX7_ring wsX7_ring) := goodIn_app (goodIn_of _ (by decide +kernel)) ggX7_keeps_X7_ring
set_option maxRecDepth 20000 in
theorem ggX7_keeps_X7_copies : GoodIn wsX7_keeps wsX7_copies := goodIn_r _ [11, 12, 13, 14, 15, 16, 17, 18, 19, 20, 21, 22, 23, 24, 25, 26, 27, 28, 29, 30, 31, 32, 33, 34, 35, 36, 37, 38, 39, 40, 41, 42, 43, 44, 45, 46, 47, 48, 49, 50, 51, 52, 53, 54, 55, 56, 57, 58, 59, 60, 61, 62, 63, 64, 65, 66, 67, 68, 69, 70, 71, 72, 73, 74, 75, 76, 77, 78, 79, 80, 81, 82, 83, 84, 85, 86, 87, 88, 89, 90, 91, 92, 93, 94, 95, 96, 97, 98, 99, 100, 101, 102, 103, 104, 105, 106, 107, 108, 109, 110, 111, 112] rfl (by decide +kernel)
set_option maxRecDepth 20000 in
theorem gX7_keeps_X7_copies : GoodIn wsX7_keeps (wsV RX7 480 RX7 yX7_copies wsX7_copies) := goodIn_app (goodIn_of _ (by decide +kernel)) ggX7_keeps_X7_copies
theorem dX7_keeps_0 : decode cX7_keeps 0 = .ok (.aload_n 0, 1) := by decide +kernel
theorem dX7_keeps_1 : decode cX7_keeps 1 = .ok (.getfield 192, 3) := by decide +kernel
theorem dX7_keeps_4 : decode cX7_keeps 4 = .ok (.bipush 20, 2) := by decide +kernel
theorem dX7_keeps_6 : decode cX7_keeps 6 = .ok (.if_icmp .ne 26, 3) := by decide +kernel
theorem dX7_keeps_9 : decode cX7_keeps 9 = .ok (.aload_n 0, 1) := by decide +kernel
theorem dX7_keeps_10 : decode cX7_keeps 10 = .ok (.aload_n 0, 1) := by decide +kernel
theorem dX7_keeps_11 : decode cX7_keeps 11 = .ok (.getfield 189, 3) := by decide +kernel
theorem dX7_keeps_14 : decode cX7_keeps 14 = .ok (.iconst 1, 1) := by decide +kernel
theorem dX7_keeps_15 : decode cX7_keeps 15 = .ok (.iadd, 1) := by decide +kernel
theorem dX7_keeps_16 : decode cX7_keeps 16 = .ok (.bipush 20, 2) := by decide +kernel
theorem dX7_keeps_18 : decode cX7_keeps 18 = .ok (.irem, 1) := by decide +kernel
theorem dX7_keeps_19 : decode cX7_keeps 19 = .ok (.putfield 189, 3) := by decide +kernel
theorem dX7_keeps_22 : decode cX7_keeps 22 = .ok (.aload_n 0, 1) := by decide +kernel
theorem dX7_keeps_23 : decode cX7_keeps 23 = .ok (.dup, 1) := by decide +kernel
theorem dX7_keeps_24 : decode cX7_keeps 24 = .ok (.getfield 192, 3) := by decide +kernel
theorem dX7_keeps_27 : decode cX7_keeps 27 = .ok (.iconst 1, 1) := by decide +kernel
theorem dX7_keeps_28 : decode cX7_keeps 28 = .ok (.isub, 1) := by decide +kernel
theorem dX7_keeps_29 : decode cX7_keeps 29 = .ok (.putfield 192, 3) := by decide +kernel
theorem dX7_keeps_32 : decode cX7_keeps 32 = .ok (.aload_n 0, 1) := by decide +kernel
theorem dX7_keeps_33 : decode cX7_keeps 33 = .ok (.aload_n 0, 1) := by decide +kernel
theorem dX7_keeps_34 : decode cX7_keeps 34 = .ok (.aload_n 0, 1) := by decide +kernel
theorem dX7_keeps_35 : decode cX7_keeps 35 = .ok (.getfield 192, 3) := by decide +kernel
theorem dX7_keeps_38 : decode cX7_keeps 38 = .ok (.invokevirtual 477, 3) := by decide +kernel
theorem dX7_keeps_41 : decode cX7_keeps 41 = .ok (.iconst 0, 1) := by decide +kernel
theorem dX7_keeps_42 : decode cX7_keeps 42 = .ok (.invokevirtual 480, 3) := by decide +kernel
theorem dX7_keeps_45 : decode cX7_keeps 45 = .ok (.aload_n 0, 1) := by decide +kernel
theorem dX7_keeps_46 : decode cX7_keeps 46 = .ok (.dup, 1) := by decide +kernel
theorem dX7_keeps_47 : decode cX7_keeps 47 = .ok (.getfield 192, 3) := by decide +kernel
theorem dX7_keeps_50 : decode cX7_keeps 50 = .ok (.iconst 1, 1) := by decide +kernel
theorem dX7_keeps_51 : decode cX7_keeps 51 = .ok (.iadd, 1) := by decide +kernel
theorem dX7_keeps_52 : decode cX7_keeps 52 = .ok (.putfield 192, 3) := by decide +kernel
theorem dX7_keeps_55 : decode cX7_keeps 55 = .ok (.return_, 1) := by decide +kernel
set_option maxRecDepth 20000 in
theorem ggX7_undo_X7_refuses : GoodIn wsX7_undo wsX7_refuses := goodIn_r _ [6, 7, 26, 27, 28, 29, 30, 31, 32, 33, 34, 35, 36, 37, 38, 39, 40, 41, 42, 43, 44, 45, 46, 47, 48, 49, 50, 51, 52, 53, 54, 55, 56, 57, 58, 59, 60, 61, 62, 63, 64, 65, 66, 67, 68, 69, 70, 71, 72, 73, 74, 75, 76, 77, 78, 79, 80, 81, 82, 83, 84, 85, 86, 87, 88, 89, 90, 91, 92, 93, 94, 95, 96, 97, 98, 99, 100, 101, 102, 103, 104, 105, 106, 107, 108, 109, 110, 111, 112, 113, 114, 115, 116, 117] rfl (by decide +kernel)
set_option maxRecDepth 20000 in
theorem gX7_undo_X7_refuses : GoodIn wsX7_undo (wsV RX7 291 RX7 yX7_refuses wsX7_refuses) := goodIn_app (goodIn_of _ (by decide +kernel)) ggX7_undo_X7_refuses
set_option maxRecDepth 20000 in
theorem ggX7_undo_X7_ring : GoodIn wsX7_undo wsX7_ring := goodIn_r _ [11, 12, 26, 27, 28, 29, 30, 31, 32, 33, 34, 35, 36, 37, 38, 39, 40, 41, 42, 43, 44, 45, 46, 47, 48, 49, 50, 51, 52, 53, 54, 55, 56, 57, 58, 59, 60, 61, 62, 63, 64, 65, 66, 67, 68, 69, 70, 71, 72, 73, 74, 75, 76, 77, 78, 79, 80, 81, 82, 83, 84, 85, 86, 87, 88, 89, 90, 91, 92, 93, 94, 95, 96, 97, 98, 99, 100, 101, 102, 103, 104, 105, 106, 107, 108, 109, 110, 111, 112, 113, 114, 115, 116, 117] rfl (by decide +kernel)
set_option maxRecDepth 20000 in
theorem gX7_undo_X7_ring : GoodIn wsX7_undo (wsV RX7 477 RX7 yX7_ring wsX7_ring) := goodIn_app (goodIn_of _ (by decide +kernel)) ggX7_undo_X7_ring
set_option maxRecDepth 20000 in
theorem ggX7_undo_X7_copies : GoodIn wsX7_undo wsX7_copies := goodIn_r _ [16, 17, 18, 19, 20, 21, 22, 23, 24, 25, 26, 27, 28, 29, 30, 31, 32, 33, 34, 35, 36, 37, 38, 39, 40, 41, 42, 43, 44, 45, 46, 47, 48, 49, 50, 51, 52, 53, 54, 55, 56, 57, 58, 59, 60, 61, 62, 63, 64, 65, 66, 67, 68, 69, 70, 71, 72, 73, 74, 75, 76, 77, 78, 79, 80, 81, 82, 83, 84, 85, 86, 87, 88, 89, 90, 91, 92, 93, 94, 95, 96, 97, 98, 99, 100, 101, 102, 103, 104, 105, 106, 107, 108, 109, 110, 111, 112, 113, 114, 115, 116, 117] rfl (by decide +kernel)
set_option maxRecDepth 20000 in
theorem gX7_undo_X7_copies : GoodIn wsX7_undo (wsV RX7 480 RX7 yX7_copies wsX7_copies) := goodIn_app (goodIn_of _ (by decide +kernel)) ggX7_undo_X7_copies
theorem dX7_undo_0 : decode cX7_undo 0 = .ok (.aload_n 0, 1) := by decide +kernel
theorem dX7_undo_1 : decode cX7_undo 1 = .ok (.getfield 192, 3) := by decide +kernel
theorem dX7_undo_4 : decode cX7_undo 4 = .ok (.ifCond .ne 17, 3) := by decide +kernel
theorem dX7_undo_7 : decode cX7_undo 7 = .ok (.aload_n 0, 1) := by decide +kernel
theorem dX7_undo_8 : decode cX7_undo 8 = .ok (.iconst 4, 1) := by decide +kernel
theorem dX7_undo_9 : decode cX7_undo 9 = .ok (.invokevirtual 291, 3) := by decide +kernel
theorem dX7_undo_12 : decode cX7_undo 12 = .ok (.ifCond .lt 7, 3) := by decide +kernel
theorem dX7_undo_15 : decode cX7_undo 15 = .ok (.iconst 1, 1) := by decide +kernel
theorem dX7_undo_16 : decode cX7_undo 16 = .ok (.goto 4, 3) := by decide +kernel
theorem dX7_undo_19 : decode cX7_undo 19 = .ok (.iconst 0, 1) := by decide +kernel
theorem dX7_undo_20 : decode cX7_undo 20 = .ok (.ireturn, 1) := by decide +kernel
theorem dX7_undo_21 : decode cX7_undo 21 = .ok (.aload_n 0, 1) := by decide +kernel
theorem dX7_undo_22 : decode cX7_undo 22 = .ok (.dup, 1) := by decide +kernel
theorem dX7_undo_23 : decode cX7_undo 23 = .ok (.getfield 192, 3) := by decide +kernel
theorem dX7_undo_26 : decode cX7_undo 26 = .ok (.iconst 1, 1) := by decide +kernel
theorem dX7_undo_27 : decode cX7_undo 27 = .ok (.isub, 1) := by decide +kernel
theorem dX7_undo_28 : decode cX7_undo 28 = .ok (.putfield 192, 3) := by decide +kernel
theorem dX7_undo_31 : decode cX7_undo 31 = .ok (.aload_n 0, 1) := by decide +kernel
theorem dX7_undo_32 : decode cX7_undo 32 = .ok (.iconst 0, 1) := by decide +kernel
theorem dX7_undo_33 : decode cX7_undo 33 = .ok (.aload_n 0, 1) := by decide +kernel
theorem dX7_undo_34 : decode cX7_undo 34 = .ok (.aload_n 0, 1) := by decide +kernel
theorem dX7_undo_35 : decode cX7_undo 35 = .ok (.getfield 192, 3) := by decide +kernel
theorem dX7_undo_38 : decode cX7_undo 38 = .ok (.invokevirtual 477, 3) := by decide +kernel
theorem dX7_undo_41 : decode cX7_undo 41 = .ok (.invokevirtual 480, 3) := by decide +kernel
theorem dX7_undo_44 : decode cX7_undo 44 = .ok (.iconst 1, 1) := by decide +kernel
theorem dX7_undo_45 : decode cX7_undo 45 = .ok (.ireturn, 1) := by decide +kernel
set_option maxRecDepth 20000 in
theorem ggX7_worthOf_X7_holds : GoodIn wsX7_worthOf wsX7_holds := goodIn_r _ [7] rfl (by decide +kernel)
set_option maxRecDepth 20000 in
theorem gX7_worthOf_X7_holds : GoodIn wsX7_worthOf (va_wsS RX7 483 yX7_holds wsX7_holds) := goodIn_app (goodIn_of _ (by decide +kernel)) ggX7_worthOf_X7_holds
theorem dX7_worthOf_0 : decode cX7_worthOf 0 = .ok (.iconst 0, 1) := by decide +kernel
theorem dX7_worthOf_1 : decode cX7_worthOf 1 = .ok (.istore_n 2, 1) := by decide +kernel
theorem dX7_worthOf_2 : decode cX7_worthOf 2 = .ok (.iconst 0, 1) := by decide +kernel
theorem dX7_worthOf_3 : decode cX7_worthOf 3 = .ok (.istore_n 3, 1) := by decide +kernel
theorem dX7_worthOf_4 : decode cX7_worthOf 4 = .ok (.iload_n 3, 1) := by decide +kernel
theorem dX7_worthOf_5 : decode cX7_worthOf 5 = .ok (.aload_n 0, 1) := by decide +kernel
theorem dX7_worthOf_6 : decode cX7_worthOf 6 = .ok (.getfield 54, 3) := by decide +kernel
theorem dX7_worthOf_9 : decode cX7_worthOf 9 = .ok (.aload_n 0, 1) := by decide +kernel
theorem dX7_worthOf_10 : decode cX7_worthOf 10 = .ok (.getfield 51, 3) := by decide +kernel
theorem dX7_worthOf_13 : decode cX7_worthOf 13 = .ok (.iaload, 1) := by decide +kernel
theorem dX7_worthOf_14 : decode cX7_worthOf 14 = .ok (.if_icmp .ge 38, 3) := by decide +kernel
theorem dX7_worthOf_17 : decode cX7_worthOf 17 = .ok (.iload_n 2, 1) := by decide +kernel
theorem dX7_worthOf_18 : decode cX7_worthOf 18 = .ok (.iload_n 1, 1) := by decide +kernel
theorem dX7_worthOf_19 : decode cX7_worthOf 19 = .ok (.iload_n 3, 1) := by decide +kernel
theorem dX7_worthOf_20 : decode cX7_worthOf 20 = .ok (.invokestatic 483, 3) := by decide +kernel
theorem dX7_worthOf_23 : decode cX7_worthOf 23 = .ok (.ifCond .eq 20, 3) := by decide +kernel
theorem dX7_worthOf_26 : decode cX7_worthOf 26 = .ok (.aload_n 0, 1) := by decide +kernel
theorem dX7_worthOf_27 : decode cX7_worthOf 27 = .ok (.getfield 57, 3) := by decide +kernel
theorem dX7_worthOf_30 : decode cX7_worthOf 30 = .ok (.bipush 10, 2) := by decide +kernel
theorem dX7_worthOf_32 : decode cX7_worthOf 32 = .ok (.aload_n 0, 1) := by decide +kernel
theorem dX7_worthOf_33 : decode cX7_worthOf 33 = .ok (.getfield 51, 3) := by decide +kernel
theorem dX7_worthOf_36 : decode cX7_worthOf 36 = .ok (.imul, 1) := by decide +kernel
theorem dX7_worthOf_37 : decode cX7_worthOf 37 = .ok (.iload_n 3, 1) := by decide +kernel
theorem dX7_worthOf_38 : decode cX7_worthOf 38 = .ok (.iadd, 1) := by decide +kernel
theorem dX7_worthOf_39 : decode cX7_worthOf 39 = .ok (.iaload, 1) := by decide +kernel
theorem dX7_worthOf_40 : decode cX7_worthOf 40 = .ok (.goto 4, 3) := by decide +kernel
theorem dX7_worthOf_43 : decode cX7_worthOf 43 = .ok (.iconst 0, 1) := by decide +kernel
theorem dX7_worthOf_44 : decode cX7_worthOf 44 = .ok (.iadd, 1) := by decide +kernel
theorem dX7_worthOf_45 : decode cX7_worthOf 45 = .ok (.istore_n 2, 1) := by decide +kernel
theorem dX7_worthOf_46 : decode cX7_worthOf 46 = .ok (.iinc 3 1, 3) := by decide +kernel
theorem dX7_worthOf_49 : decode cX7_worthOf 49 = .ok (.goto (-45), 3) := by decide +kernel
theorem dX7_worthOf_52 : decode cX7_worthOf 52 = .ok (.iload_n 2, 1) := by decide +kernel
theorem dX7_worthOf_53 : decode cX7_worthOf 53 = .ok (.ireturn, 1) := by decide +kernel
theorem dX7_givesOf_0 : decode cX7_givesOf 0 = .ok (.aload_n 0, 1) := by decide +kernel
theorem dX7_givesOf_1 : decode cX7_givesOf 1 = .ok (.getfield 72, 3) := by decide +kernel
theorem dX7_givesOf_4 : decode cX7_givesOf 4 = .ok (.bipush 12, 2) := by decide +kernel
theorem dX7_givesOf_6 : decode cX7_givesOf 6 = .ok (.aload_n 0, 1) := by decide +kernel
theorem dX7_givesOf_7 : decode cX7_givesOf 7 = .ok (.getfield 51, 3) := by decide +kernel
theorem dX7_givesOf_10 : decode cX7_givesOf 10 = .ok (.imul, 1) := by decide +kernel
theorem dX7_givesOf_11 : decode cX7_givesOf 11 = .ok (.iload_n 1, 1) := by decide +kernel
theorem dX7_givesOf_12 : decode cX7_givesOf 12 = .ok (.iadd, 1) := by decide +kernel
theorem dX7_givesOf_13 : decode cX7_givesOf 13 = .ok (.iaload, 1) := by decide +kernel
theorem dX7_givesOf_14 : decode cX7_givesOf 14 = .ok (.ireturn, 1) := by decide +kernel
set_option maxRecDepth 20000 in
theorem ggX7_rhymeOf_X7_givesOf : GoodIn wsX7_rhymeOf wsX7_givesOf := goodIn_r _ [7, 8, 2, 9, 10, 11, 12, 13, 14, 15, 16, 17, 18, 19, 20, 21, 22, 23, 24, 25, 26, 27, 28, 29, 30, 31, 32, 33, 34, 35, 36, 37, 38, 39, 40, 41, 42, 43, 44, 45, 46, 47, 48, 49, 50, 51, 52, 53, 54, 55, 56, 57, 58, 59, 60, 61, 62, 63, 64, 65, 66, 67, 68, 69, 70, 71, 72, 73, 74, 75, 76, 77, 78, 79, 80, 81, 82, 83, 84, 85, 86, 87, 88, 89, 90, 91, 92, 93, 94, 95, 96, 97, 98, 99, 100] rfl (by decide +kernel)
set_option maxRecDepth 20000 in
theorem gX7_rhymeOf_X7_givesOf : GoodIn wsX7_rhymeOf (wsV RX7 487 RX7 yX7_givesOf wsX7_givesOf) := goodIn_app (goodIn_of _ (by decide +kernel)) ggX7_rhymeOf_X7_givesOf
theorem dX7_rhymeOf_0 : decode cX7_rhymeOf 0 = .ok (.aload_n 0, 1) := by decide +kernel
theorem dX7_rhymeOf_1 : decode cX7_rhymeOf 1 = .ok (.getfield 60, 3) := by decide +kernel
theorem dX7_rhymeOf_4 : decode cX7_rhymeOf 4 = .ok (.bipush 10, 2) := by decide +kernel
theorem dX7_rhymeOf_6 : decode cX7_rhymeOf 6 = .ok (.aload_n 0, 1) := by decide +kernel
theorem dX7_rhymeOf_7 : decode cX7_rhymeOf 7 = .ok (.getfield 51, 3) := by decide +kernel
theorem dX7_rhymeOf_10 : decode cX7_rhymeOf 10 = .ok (.imul, 1) := by decide +kernel
theorem dX7_rhymeOf_11 : decode cX7_rhymeOf 11 = .ok (.aload_n 0, 1) := by decide +kernel
theorem dX7_rhymeOf_12 : decode cX7_rhymeOf 12 = .ok (.iload_n 1, 1) := by decide +kernel
theorem dX7_rhymeOf_13 : decode cX7_rhymeOf 13 = .ok (.invokevirtual 487, 3) := by decide +kernel
theorem dX7_rhymeOf_16 : decode cX7_rhymeOf 16 = .ok (.iadd, 1) := by decide +kernel
theorem dX7_rhymeOf_17 : decode cX7_rhymeOf 17 = .ok (.iaload, 1) := by decide +kernel
theorem dX7_rhymeOf_18 : decode cX7_rhymeOf 18 = .ok (.ireturn, 1) := by decide +kernel
theorem dX7_wordsOf_0 : decode cX7_wordsOf 0 = .ok (.aload_n 0, 1) := by decide +kernel
theorem dX7_wordsOf_1 : decode cX7_wordsOf 1 = .ok (.getfield 69, 3) := by decide +kernel
theorem dX7_wordsOf_4 : decode cX7_wordsOf 4 = .ok (.bipush 12, 2) := by decide +kernel
theorem dX7_wordsOf_6 : decode cX7_wordsOf 6 = .ok (.aload_n 0, 1) := by decide +kernel
theorem dX7_wordsOf_7 : decode cX7_wordsOf 7 = .ok (.getfield 51, 3) := by decide +kernel
theorem dX7_wordsOf_10 : decode cX7_wordsOf 10 = .ok (.imul, 1) := by decide +kernel
theorem dX7_wordsOf_11 : decode cX7_wordsOf 11 = .ok (.iload_n 1, 1) := by decide +kernel
theorem dX7_wordsOf_12 : decode cX7_wordsOf 12 = .ok (.iadd, 1) := by decide +kernel
theorem dX7_wordsOf_13 : decode cX7_wordsOf 13 = .ok (.iaload, 1) := by decide +kernel
theorem dX7_wordsOf_14 : decode cX7_wordsOf 14 = .ok (.ireturn, 1) := by decide +kernel
set_option maxRecDepth 20000 in
theorem ggX7_part_X7_worthOf : GoodIn wsX7_part wsX7_worthOf := goodIn_r _ [10, 11, 12, 13, 14, 15, 9, 16, 35, 36, 37, 38, 39, 40, 41, 42, 43, 44, 45, 46, 47, 48, 49, 50, 51, 52, 53, 54, 55, 56, 57, 58, 59, 60, 61, 62, 63, 64, 65, 66, 67, 68, 69, 70, 71, 72, 73, 74, 75, 76, 77, 78, 79, 80, 81, 82, 83, 84, 85, 86, 87, 88, 89, 90, 91, 92, 93, 94, 95, 96, 97, 98, 99, 100, 101, 102, 103, 104, 105, 106, 107, 108, 109, 110, 111, 112, 113, 114, 115, 116, 117, 118, 119, 120, 121, 122, 123, 124, 125, 126] rfl (by decide +kernel)
set_option maxRecDepth 20000 in
theorem gX7_part_X7_worthOf : GoodIn wsX7_part (wsV RX7 490 RX7 yX7_worthOf wsX7_worthOf) := goodIn_app (goodIn_of _ (by decide +kernel)) ggX7_part_X7_worthOf
set_option maxRecDepth 20000 in
theorem ggX7_part_X7_bits : GoodIn wsX7_part wsX7_bits := goodIn_r _ [19] rfl (by decide +kernel)
set_option maxRecDepth 20000 in
theorem gX7_part_X7_bits : GoodIn wsX7_part (va_wsS RX7 493 yX7_bits wsX7_bits) := goodIn_app (goodIn_of _ (by decide +kernel)) ggX7_part_X7_bits
set_option maxRecDepth 20000 in
theorem ggX7_part_X7_wordsOf : GoodIn wsX7_part wsX7_wordsOf := goodIn_r _ [23, 24, 12, 35, 36, 37, 38, 39, 40, 41, 42, 43, 44, 45, 46, 47, 48, 49, 50, 51, 52, 53, 54, 55, 56, 57, 58, 59, 60, 61, 62, 63, 64, 65, 66, 67, 68, 69, 70, 71, 72, 73, 74, 75, 76, 77, 78, 79, 80, 81, 82, 83, 84, 85, 86, 87, 88, 89, 90, 91, 92, 93, 94, 95, 96, 97, 98, 99, 100, 101, 102, 103, 104, 105, 106, 107, 108, 109, 110, 111, 112, 113, 114, 115, 116, 117, 118, 119, 120, 121, 122, 123, 124, 125, 126] rfl (by decide +kernel)
set_option maxRecDepth 20000 in
theorem gX7_part_X7_wordsOf : GoodIn wsX7_part (wsV RX7 496 RX7 yX7_wordsOf wsX7_wordsOf) := goodIn_app (goodIn_of _ (by decide +kernel)) ggX7_part_X7_wordsOf
set_option maxRecDepth 20000 in
theorem ggX7_part_X7_rhymeOf : GoodIn wsX7_part wsX7_rhymeOf := goodIn_r _ [28, 29, 12, 30, 31, 32, 9, 33, 34, 35, 36, 37, 38, 39, 40, 41, 42, 43, 44, 45, 46, 47, 48, 49, 50, 51, 52, 53, 54, 55, 56, 57, 58, 59, 60, 61, 62, 63, 64, 65, 66, 67, 68, 69, 70, 71, 72, 73, 74, 75, 76, 77, 78, 79, 80, 81, 82, 83, 84, 85, 86, 87, 88, 89, 90, 91, 92, 93, 94, 95, 96, 97, 98, 99, 100, 101, 102, 103, 104, 105, 106, 107, 108, 109, 110, 111, 112, 113, 114, 115, 116, 117, 118, 119, 120, 121, 122, 123, 124, 125, 126] rfl (by decide +kernel)
set_option maxRecDepth 20000 in
theorem gX7_part_X7_rhymeOf : GoodIn wsX7_part (wsV RX7 499 RX7 yX7_rhymeOf wsX7_rhymeOf) := goodIn_app (goodIn_of _ (by decide +kernel)) ggX7_part_X7_rhymeOf
theorem dX7_part_0 : decode cX7_part 0 = .ok (.iload_n 1, 1) := by decide +kernel
theorem dX7_part_1 : decode cX7_part 1 = .ok (.tableswitch 131 0 7 #[47, 50, 60, 69, 75, 81, 87, 109], 47) := by decide +kernel
theorem dX7_part_48 : decode cX7_part 48 = .ok (.iload_n 2, 1) := by decide +kernel
theorem dX7_part_49 : decode cX7_part 49 = .ok (.i2l, 1) := by decide +kernel
theorem dX7_part_50 : decode cX7_part 50 = .ok (.lreturn, 1) := by decide +kernel
theorem dX7_part_51 : decode cX7_part 51 = .ok (.aload_n 0, 1) := by decide +kernel
theorem dX7_part_52 : decode cX7_part 52 = .ok (.aload_n 0, 1) := by decide +kernel
theorem dX7_part_53 : decode cX7_part 53 = .ok (.getfield 201, 3) := by decide +kernel
theorem dX7_part_56 : decode cX7_part 56 = .ok (.invokevirtual 490, 3) := by decide +kernel
theorem dX7_part_59 : decode cX7_part 59 = .ok (.i2l, 1) := by decide +kernel
theorem dX7_part_60 : decode cX7_part 60 = .ok (.lreturn, 1) := by decide +kernel
theorem dX7_part_61 : decode cX7_part 61 = .ok (.aload_n 0, 1) := by decide +kernel
theorem dX7_part_62 : decode cX7_part 62 = .ok (.getfield 201, 3) := by decide +kernel
theorem dX7_part_65 : decode cX7_part 65 = .ok (.invokestatic 493, 3) := by decide +kernel
theorem dX7_part_68 : decode cX7_part 68 = .ok (.i2l, 1) := by decide +kernel
theorem dX7_part_69 : decode cX7_part 69 = .ok (.lreturn, 1) := by decide +kernel
theorem dX7_part_70 : decode cX7_part 70 = .ok (.aload_n 0, 1) := by decide +kernel
theorem dX7_part_71 : decode cX7_part 71 = .ok (.getfield 204, 3) := by decide +kernel
theorem dX7_part_74 : decode cX7_part 74 = .ok (.i2l, 1) := by decide +kernel
theorem dX7_part_75 : decode cX7_part 75 = .ok (.lreturn, 1) := by decide +kernel
theorem dX7_part_76 : decode cX7_part 76 = .ok (.aload_n 0, 1) := by decide +kernel
theorem dX7_part_77 : decode cX7_part 77 = .ok (.getfield 207, 3) := by decide +kernel
theorem dX7_part_80 : decode cX7_part 80 = .ok (.i2l, 1) := by decide +kernel
theorem dX7_part_81 : decode cX7_part 81 = .ok (.lreturn, 1) := by decide +kernel
theorem dX7_part_82 : decode cX7_part 82 = .ok (.aload_n 0, 1) := by decide +kernel
theorem dX7_part_83 : decode cX7_part 83 = .ok (.getfield 210, 3) := by decide +kernel
theorem dX7_part_86 : decode cX7_part 86 = .ok (.i2l, 1) := by decide +kernel
theorem dX7_part_87 : decode cX7_part 87 = .ok (.lreturn, 1) := by decide +kernel
theorem dX7_part_88 : decode cX7_part 88 = .ok (.aload_n 0, 1) := by decide +kernel
theorem dX7_part_89 : decode cX7_part 89 = .ok (.getfield 213, 3) := by decide +kernel
theorem dX7_part_92 : decode cX7_part 92 = .ok (.iconst (-1), 1) := by decide +kernel
theorem dX7_part_93 : decode cX7_part 93 = .ok (.if_icmp .ne 7, 3) := by decide +kernel
theorem dX7_part_96 : decode cX7_part 96 = .ok (.lconst 0, 1) := by decide +kernel
theorem dX7_part_97 : decode cX7_part 97 = .ok (.goto 12, 3) := by decide +kernel
theorem dX7_part_100 : decode cX7_part 100 = .ok (.aload_n 0, 1) := by decide +kernel
theorem dX7_part_101 : decode cX7_part 101 = .ok (.aload_n 0, 1) := by decide +kernel
theorem dX7_part_102 : decode cX7_part 102 = .ok (.getfield 213, 3) := by decide +kernel
theorem dX7_part_105 : decode cX7_part 105 = .ok (.invokevirtual 496, 3) := by decide +kernel
theorem dX7_part_108 : decode cX7_part 108 = .ok (.i2l, 1) := by decide +kernel
theorem dX7_part_109 : decode cX7_part 109 = .ok (.lreturn, 1) := by decide +kernel
theorem dX7_part_110 : decode cX7_part 110 = .ok (.aload_n 0, 1) := by decide +kernel
theorem dX7_part_111 : decode cX7_part 111 = .ok (.getfield 213, 3) := by decide +kernel
theorem dX7_part_114 : decode cX7_part 114 = .ok (.iconst (-1), 1) := by decide +kernel
theorem dX7_part_115 : decode cX7_part 115 = .ok (.if_icmp .ne 7, 3) := by decide +kernel
theorem dX7_part_118 : decode cX7_part 118 = .ok (.lconst 0, 1) := by decide +kernel
theorem dX7_part_119 : decode cX7_part 119 = .ok (.goto 12, 3) := by decide +kernel
theorem dX7_part_122 : decode cX7_part 122 = .ok (.aload_n 0, 1) := by decide +kernel
theorem dX7_part_123 : decode cX7_part 123 = .ok (.aload_n 0, 1) := by decide +kernel
theorem dX7_part_124 : decode cX7_part 124 = .ok (.getfield 213, 3) := by decide +kernel
theorem dX7_part_127 : decode cX7_part 127 = .ok (.invokevirtual 499, 3) := by decide +kernel
theorem dX7_part_130 : decode cX7_part 130 = .ok (.i2l, 1) := by decide +kernel
theorem dX7_part_131 : decode cX7_part 131 = .ok (.lreturn, 1) := by decide +kernel
theorem dX7_part_132 : decode cX7_part 132 = .ok (.lconst 1, 1) := by decide +kernel
theorem dX7_part_133 : decode cX7_part 133 = .ok (.lreturn, 1) := by decide +kernel
theorem dX7_held_0 : decode cX7_held 0 = .ok (.lload_n 0, 1) := by decide +kernel
theorem dX7_held_1 : decode cX7_held 1 = .ok (.ldc2_w 502, 3) := by decide +kernel
theorem dX7_held_4 : decode cX7_held 4 = .ok (.lcmp, 1) := by decide +kernel
theorem dX7_held_5 : decode cX7_held 5 = .ok (.ifCond .le 9, 3) := by decide +kernel
theorem dX7_held_8 : decode cX7_held 8 = .ok (.ldc2_w 502, 3) := by decide +kernel
theorem dX7_held_11 : decode cX7_held 11 = .ok (.goto 18, 3) := by decide +kernel
theorem dX7_held_14 : decode cX7_held 14 = .ok (.lload_n 0, 1) := by decide +kernel
theorem dX7_held_15 : decode cX7_held 15 = .ok (.ldc2_w 504, 3) := by decide +kernel
theorem dX7_held_18 : decode cX7_held 18 = .ok (.lcmp, 1) := by decide +kernel
theorem dX7_held_19 : decode cX7_held 19 = .ok (.ifCond .ge 9, 3) := by decide +kernel
theorem dX7_held_22 : decode cX7_held 22 = .ok (.ldc2_w 504, 3) := by decide +kernel
theorem dX7_held_25 : decode cX7_held 25 = .ok (.goto 4, 3) := by decide +kernel
theorem dX7_held_28 : decode cX7_held 28 = .ok (.lload_n 0, 1) := by decide +kernel
theorem dX7_held_29 : decode cX7_held 29 = .ok (.lreturn, 1) := by decide +kernel
theorem dX7_floor_0 : decode cX7_floor 0 = .ok (.lload_n 2, 1) := by decide +kernel
theorem dX7_floor_1 : decode cX7_floor 1 = .ok (.lconst 0, 1) := by decide +kernel
theorem dX7_floor_2 : decode cX7_floor 2 = .ok (.lcmp, 1) := by decide +kernel
theorem dX7_floor_3 : decode cX7_floor 3 = .ok (.ifCond .ne 5, 3) := by decide +kernel
theorem dX7_floor_6 : decode cX7_floor 6 = .ok (.lconst 0, 1) := by decide +kernel
theorem dX7_floor_7 : decode cX7_floor 7 = .ok (.lreturn, 1) := by decide +kernel
theorem dX7_floor_8 : decode cX7_floor 8 = .ok (.lload_n 0, 1) := by decide +kernel
theorem dX7_floor_9 : decode cX7_floor 9 = .ok (.lload_n 2, 1) := by decide +kernel
theorem dX7_floor_10 : decode cX7_floor 10 = .ok (.ldiv, 1) := by decide +kernel
theorem dX7_floor_11 : decode cX7_floor 11 = .ok (.lstore 4, 2) := by decide +kernel
theorem dX7_floor_13 : decode cX7_floor 13 = .ok (.lload_n 0, 1) := by decide +kernel
theorem dX7_floor_14 : decode cX7_floor 14 = .ok (.lload_n 2, 1) := by decide +kernel
theorem dX7_floor_15 : decode cX7_floor 15 = .ok (.lrem, 1) := by decide +kernel
theorem dX7_floor_16 : decode cX7_floor 16 = .ok (.lconst 0, 1) := by decide +kernel
theorem dX7_floor_17 : decode cX7_floor 17 = .ok (.lcmp, 1) := by decide +kernel
theorem dX7_floor_18 : decode cX7_floor 18 = .ok (.ifCond .eq 35, 3) := by decide +kernel
theorem dX7_floor_21 : decode cX7_floor 21 = .ok (.lload_n 0, 1) := by decide +kernel
theorem dX7_floor_22 : decode cX7_floor 22 = .ok (.lconst 0, 1) := by decide +kernel
theorem dX7_floor_23 : decode cX7_floor 23 = .ok (.lcmp, 1) := by decide +kernel
theorem dX7_floor_24 : decode cX7_floor 24 = .ok (.ifCond .ge 7, 3) := by decide +kernel
theorem dX7_floor_27 : decode cX7_floor 27 = .ok (.iconst 1, 1) := by decide +kernel
theorem dX7_floor_28 : decode cX7_floor 28 = .ok (.goto 4, 3) := by decide +kernel
theorem dX7_floor_31 : decode cX7_floor 31 = .ok (.iconst 0, 1) := by decide +kernel
theorem dX7_floor_32 : decode cX7_floor 32 = .ok (.lload_n 2, 1) := by decide +kernel
theorem dX7_floor_33 : decode cX7_floor 33 = .ok (.lconst 0, 1) := by decide +kernel
theorem dX7_floor_34 : decode cX7_floor 34 = .ok (.lcmp, 1) := by decide +kernel
theorem dX7_floor_35 : decode cX7_floor 35 = .ok (.ifCond .ge 7, 3) := by decide +kernel
theorem dX7_floor_38 : decode cX7_floor 38 = .ok (.iconst 1, 1) := by decide +kernel
theorem dX7_floor_39 : decode cX7_floor 39 = .ok (.goto 4, 3) := by decide +kernel
theorem dX7_floor_42 : decode cX7_floor 42 = .ok (.iconst 0, 1) := by decide +kernel
theorem dX7_floor_43 : decode cX7_floor 43 = .ok (.if_icmp .eq 10, 3) := by decide +kernel
theorem dX7_floor_46 : decode cX7_floor 46 = .ok (.lload 4, 2) := by decide +kernel
theorem dX7_floor_48 : decode cX7_floor 48 = .ok (.lconst 1, 1) := by decide +kernel
theorem dX7_floor_49 : decode cX7_floor 49 = .ok (.lsub, 1) := by decide +kernel
theorem dX7_floor_50 : decode cX7_floor 50 = .ok (.goto 5, 3) := by decide +kernel
theorem dX7_floor_53 : decode cX7_floor 53 = .ok (.lload 4, 2) := by decide +kernel
theorem dX7_floor_55 : decode cX7_floor 55 = .ok (.lreturn, 1) := by decide +kernel
set_option maxRecDepth 20000 in
theorem ggX7_two_X7_held : GoodIn wsX7_two wsX7_held := goodIn_r _ [4, 5, 6] rfl (by decide +kernel)
set_option maxRecDepth 20000 in
theorem gX7_two_X7_held : GoodIn wsX7_two (va_wsS RX7 506 yX7_held wsX7_held) := goodIn_app (goodIn_of _ (by decide +kernel)) ggX7_two_X7_held
set_option maxRecDepth 20000 in
theorem ggX7_two_X7_floor : GoodIn wsX7_two wsX7_floor := goodIn_r _ [9] rfl (by decide +kernel)
set_option maxRecDepth 20000 in
theorem gX7_two_X7_floor : GoodIn wsX7_two (va_wsS RX7 510 yX7_floor wsX7_floor) := goodIn_app (goodIn_of _ (by decide +kernel)) ggX7_two_X7_floor
theorem dX7_two_0 : decode cX7_two 0 = .ok (.iload_n 0, 1) := by decide +kernel
theorem dX7_two_1 : decode cX7_two 1 = .ok (.tableswitch 176 10 20 #[59, 66, 73, 80, 89, 112, 124, 136, 148, 160, 172], 59) := by decide +kernel
theorem dX7_two_60 : decode cX7_two 60 = .ok (.lload_n 1, 1) := by decide +kernel
theorem dX7_two_61 : decode cX7_two 61 = .ok (.lload_n 3, 1) := by decide +kernel
theorem dX7_two_62 : decode cX7_two 62 = .ok (.ladd, 1) := by decide +kernel
theorem dX7_two_63 : decode cX7_two 63 = .ok (.invokestatic 506, 3) := by decide +kernel
theorem dX7_two_66 : decode cX7_two 66 = .ok (.lreturn, 1) := by decide +kernel
theorem dX7_two_67 : decode cX7_two 67 = .ok (.lload_n 1, 1) := by decide +kernel
theorem dX7_two_68 : decode cX7_two 68 = .ok (.lload_n 3, 1) := by decide +kernel
theorem dX7_two_69 : decode cX7_two 69 = .ok (.lsub, 1) := by decide +kernel
theorem dX7_two_70 : decode cX7_two 70 = .ok (.invokestatic 506, 3) := by decide +kernel
theorem dX7_two_73 : decode cX7_two 73 = .ok (.lreturn, 1) := by decide +kernel
theorem dX7_two_74 : decode cX7_two 74 = .ok (.lload_n 1, 1) := by decide +kernel
theorem dX7_two_75 : decode cX7_two 75 = .ok (.lload_n 3, 1) := by decide +kernel
theorem dX7_two_76 : decode cX7_two 76 = .ok (.lmul, 1) := by decide +kernel
theorem dX7_two_77 : decode cX7_two 77 = .ok (.invokestatic 506, 3) := by decide +kernel
theorem dX7_two_80 : decode cX7_two 80 = .ok (.lreturn, 1) := by decide +kernel
theorem dX7_two_81 : decode cX7_two 81 = .ok (.lload_n 1, 1) := by decide +kernel
theorem dX7_two_82 : decode cX7_two 82 = .ok (.lload_n 3, 1) := by decide +kernel
theorem dX7_two_83 : decode cX7_two 83 = .ok (.invokestatic 510, 3) := by decide +kernel
theorem dX7_two_86 : decode cX7_two 86 = .ok (.invokestatic 506, 3) := by decide +kernel
theorem dX7_two_89 : decode cX7_two 89 = .ok (.lreturn, 1) := by decide +kernel
theorem dX7_two_90 : decode cX7_two 90 = .ok (.lload_n 3, 1) := by decide +kernel
theorem dX7_two_91 : decode cX7_two 91 = .ok (.lconst 0, 1) := by decide +kernel
theorem dX7_two_92 : decode cX7_two 92 = .ok (.lcmp, 1) := by decide +kernel
theorem dX7_two_93 : decode cX7_two 93 = .ok (.ifCond .ne 7, 3) := by decide +kernel
theorem dX7_two_96 : decode cX7_two 96 = .ok (.lconst 0, 1) := by decide +kernel
theorem dX7_two_97 : decode cX7_two 97 = .ok (.goto 15, 3) := by decide +kernel
theorem dX7_two_100 : decode cX7_two 100 = .ok (.lload_n 1, 1) := by decide +kernel
theorem dX7_two_101 : decode cX7_two 101 = .ok (.lload_n 3, 1) := by decide +kernel
theorem dX7_two_102 : decode cX7_two 102 = .ok (.lload_n 1, 1) := by decide +kernel
theorem dX7_two_103 : decode cX7_two 103 = .ok (.lload_n 3, 1) := by decide +kernel
theorem dX7_two_104 : decode cX7_two 104 = .ok (.invokestatic 510, 3) := by decide +kernel
theorem dX7_two_107 : decode cX7_two 107 = .ok (.lmul, 1) := by decide +kernel
theorem dX7_two_108 : decode cX7_two 108 = .ok (.lsub, 1) := by decide +kernel
theorem dX7_two_109 : decode cX7_two 109 = .ok (.invokestatic 506, 3) := by decide +kernel
theorem dX7_two_112 : decode cX7_two 112 = .ok (.lreturn, 1) := by decide +kernel
theorem dX7_two_113 : decode cX7_two 113 = .ok (.lload_n 1, 1) := by decide +kernel
theorem dX7_two_114 : decode cX7_two 114 = .ok (.lload_n 3, 1) := by decide +kernel
theorem dX7_two_115 : decode cX7_two 115 = .ok (.lcmp, 1) := by decide +kernel
theorem dX7_two_116 : decode cX7_two 116 = .ok (.ifCond .ge 7, 3) := by decide +kernel
theorem dX7_two_119 : decode cX7_two 119 = .ok (.lload_n 1, 1) := by decide +kernel
theorem dX7_two_120 : decode cX7_two 120 = .ok (.goto 4, 3) := by decide +kernel
theorem dX7_two_123 : decode cX7_two 123 = .ok (.lload_n 3, 1) := by decide +kernel
theorem dX7_two_124 : decode cX7_two 124 = .ok (.lreturn, 1) := by decide +kernel
theorem dX7_two_125 : decode cX7_two 125 = .ok (.lload_n 1, 1) := by decide +kernel
theorem dX7_two_126 : decode cX7_two 126 = .ok (.lload_n 3, 1) := by decide +kernel
theorem dX7_two_127 : decode cX7_two 127 = .ok (.lcmp, 1) := by decide +kernel
theorem dX7_two_128 : decode cX7_two 128 = .ok (.ifCond .le 7, 3) := by decide +kernel
theorem dX7_two_131 : decode cX7_two 131 = .ok (.lload_n 1, 1) := by decide +kernel
theorem dX7_two_132 : decode cX7_two 132 = .ok (.goto 4, 3) := by decide +kernel
theorem dX7_two_135 : decode cX7_two 135 = .ok (.lload_n 3, 1) := by decide +kernel
theorem dX7_two_136 : decode cX7_two 136 = .ok (.lreturn, 1) := by decide +kernel
theorem dX7_two_137 : decode cX7_two 137 = .ok (.lload_n 1, 1) := by decide +kernel
theorem dX7_two_138 : decode cX7_two 138 = .ok (.lload_n 3, 1) := by decide +kernel
theorem dX7_two_139 : decode cX7_two 139 = .ok (.lcmp, 1) := by decide +kernel
theorem dX7_two_140 : decode cX7_two 140 = .ok (.ifCond .ge 7, 3) := by decide +kernel
theorem dX7_two_143 : decode cX7_two 143 = .ok (.lconst 1, 1) := by decide +kernel
theorem dX7_two_144 : decode cX7_two 144 = .ok (.goto 4, 3) := by decide +kernel
theorem dX7_two_147 : decode cX7_two 147 = .ok (.lconst 0, 1) := by decide +kernel
theorem dX7_two_148 : decode cX7_two 148 = .ok (.lreturn, 1) := by decide +kernel
theorem dX7_two_149 : decode cX7_two 149 = .ok (.lload_n 1, 1) := by decide +kernel
theorem dX7_two_150 : decode cX7_two 150 = .ok (.lload_n 3, 1) := by decide +kernel
theorem dX7_two_151 : decode cX7_two 151 = .ok (.lcmp, 1) := by decide +kernel
theorem dX7_two_152 : decode cX7_two 152 = .ok (.ifCond .le 7, 3) := by decide +kernel
theorem dX7_two_155 : decode cX7_two 155 = .ok (.lconst 1, 1) := by decide +kernel
theorem dX7_two_156 : decode cX7_two 156 = .ok (.goto 4, 3) := by decide +kernel
theorem dX7_two_159 : decode cX7_two 159 = .ok (.lconst 0, 1) := by decide +kernel
theorem dX7_two_160 : decode cX7_two 160 = .ok (.lreturn, 1) := by decide +kernel
theorem dX7_two_161 : decode cX7_two 161 = .ok (.lload_n 1, 1) := by decide +kernel
theorem dX7_two_162 : decode cX7_two 162 = .ok (.lload_n 3, 1) := by decide +kernel
theorem dX7_two_163 : decode cX7_two 163 = .ok (.lcmp, 1) := by decide +kernel
theorem dX7_two_164 : decode cX7_two 164 = .ok (.ifCond .ne 7, 3) := by decide +kernel
theorem dX7_two_167 : decode cX7_two 167 = .ok (.lconst 1, 1) := by decide +kernel
theorem dX7_two_168 : decode cX7_two 168 = .ok (.goto 4, 3) := by decide +kernel
theorem dX7_two_171 : decode cX7_two 171 = .ok (.lconst 0, 1) := by decide +kernel
theorem dX7_two_172 : decode cX7_two 172 = .ok (.lreturn, 1) := by decide +kernel
theorem dX7_two_173 : decode cX7_two 173 = .ok (.lload_n 1, 1) := by decide +kernel
theorem dX7_two_174 : decode cX7_two 174 = .ok (.lload_n 3, 1) := by decide +kernel
theorem dX7_two_175 : decode cX7_two 175 = .ok (.land, 1) := by decide +kernel
theorem dX7_two_176 : decode cX7_two 176 = .ok (.lreturn, 1) := by decide +kernel
