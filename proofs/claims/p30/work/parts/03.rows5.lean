set_option maxRecDepth 20000 in
theorem gX7_goesRow_X7_asks : GoodIn wsX7_goesRow (wsV RX7 535 RX7 yX7_asks wsX7_asks) := goodIn_app (goodIn_of _ (by decide +kernel)) ggX7_goesRow_X7_asks
set_option maxRecDepth 20000 in
theorem ggX7_goesRow_X7_whyNot : GoodIn wsX7_goesRow wsX7_whyNot := goodIn_r _ [30, 14, 31, 23, 32, 33, 34, 35, 11, 36, 37, 16, 17, 18, 38, 39, 40, 41, 42, 43, 44, 45, 46, 47, 48, 49, 50, 51, 52, 53, 54, 55, 56, 57, 58, 59, 60, 61, 62, 63, 64, 65, 24, 25, 26, 8, 9, 10, 12, 13, 15, 66, 67, 68, 69, 70, 71, 72, 73, 74, 75, 76, 77, 78, 79, 80, 81, 82, 83, 84, 85, 86, 87, 88, 99, 100, 101, 102, 103, 104, 105, 106, 107, 108, 109, 110, 111, 112, 113, 114, 115, 116, 117, 118, 119, 120, 121, 122, 123, 124, 125, 126, 127, 128, 129, 130, 131, 132, 133, 134, 135, 136, 137, 138, 139, 140, 141, 142, 143, 144, 145, 146, 147, 148, 149, 150, 151, 152, 153, 154, 155, 156, 157, 158, 159, 160, 161, 162, 163, 164, 165, 166, 167, 168, 169, 170, 171, 172, 173, 174, 175, 176, 177, 178, 179, 180, 181, 182, 183, 184, 185, 186, 187, 188, 189, 190] rfl (by decide +kernel)
set_option maxRecDepth 20000 in
theorem gX7_goesRow_X7_whyNot : GoodIn wsX7_goesRow (wsV RX7 550 RX7 yX7_whyNot wsX7_whyNot) := goodIn_app (goodIn_of _ (by decide +kernel)) ggX7_goesRow_X7_whyNot
set_option maxRecDepth 20000 in
theorem ggX7_goesRow_X7_darkBy : GoodIn wsX7_goesRow wsX7_darkBy := goodIn_r _ [92, 52, 93, 14, 94, 55, 56, 57, 11, 58, 59, 60, 61, 62, 63, 64, 65, 23, 24, 25, 26, 8, 9, 10, 12, 13, 15, 16, 17, 18, 66, 67, 68, 38, 39, 40, 41, 42, 43, 44, 45, 46, 47, 33, 34, 35, 36, 37, 69, 70, 71, 72, 73, 74, 75, 76, 77, 78, 79, 80, 81, 82, 99, 100, 101, 102, 103, 104, 105, 106, 107, 108, 109, 110, 111, 112, 113, 114, 115, 116, 117, 118, 119, 120, 121, 122, 123, 124, 125, 126, 127, 128, 129, 130, 131, 132, 133, 134, 135, 136, 137, 138, 139, 140, 141, 142, 143, 144, 145, 146, 147, 148, 149, 150, 151, 152, 153, 154, 155, 156, 157, 158, 159, 160, 161, 162, 163, 164, 165, 166, 167, 168, 169, 170, 171, 172, 173, 174, 175, 176, 177, 178, 179, 180, 181, 182, 183, 184, 185, 186, 187, 188, 189, 190] rfl (by decide +kernel)
set_option maxRecDepth 20000 in
theorem gX7_goesRow_X7_darkBy : GoodIn wsX7_goesRow (wsV RX7 553 RX7 yX7_darkBy wsX7_darkBy) := goodIn_app (goodIn_of _ (by decide +kernel)) ggX7_goesRow_X7_darkBy
set_option maxRecDepth 20000 in
theorem ggX7_goesRow_X7_behind : GoodIn wsX7_goesRow wsX7_behind := goodIn_r _ [98, 32, 14, 33, 34, 35, 11, 36, 37, 99, 100, 101, 102, 103, 104, 105, 106, 107, 108, 109, 110, 111, 112, 113, 114, 115, 116, 117, 118, 119, 120, 121, 122, 123, 124, 125, 126, 127, 128, 129, 130, 131, 132, 133, 134, 135, 136, 137, 138, 139, 140, 141, 142, 143, 144, 145, 146, 147, 148, 149, 150, 151, 152, 153, 154, 155, 156, 157, 158, 159, 160, 161, 162, 163, 164, 165, 166, 167, 168, 169, 170, 171, 172, 173, 174, 175, 176, 177, 178, 179, 180, 181, 182, 183, 184, 185, 186, 187, 188, 189, 190] rfl (by decide +kernel)
set_option maxRecDepth 20000 in
theorem gX7_goesRow_X7_behind : GoodIn wsX7_goesRow (wsV RX7 556 RX7 yX7_behind wsX7_behind) := goodIn_app (goodIn_of _ (by decide +kernel)) ggX7_goesRow_X7_behind
theorem dX7_goesRow_0 : decode cX7_goesRow 0 = .ok (.aload_n 0, 1) := by decide +kernel
theorem dX7_goesRow_1 : decode cX7_goesRow 1 = .ok (.getfield 162, 3) := by decide +kernel
theorem dX7_goesRow_4 : decode cX7_goesRow 4 = .ok (.iconst 0, 1) := by decide +kernel
theorem dX7_goesRow_5 : decode cX7_goesRow 5 = .ok (.iaload, 1) := by decide +kernel
theorem dX7_goesRow_6 : decode cX7_goesRow 6 = .ok (.istore_n 2, 1) := by decide +kernel
theorem dX7_goesRow_7 : decode cX7_goesRow 7 = .ok (.aload_n 0, 1) := by decide +kernel
theorem dX7_goesRow_8 : decode cX7_goesRow 8 = .ok (.getfield 165, 3) := by decide +kernel
theorem dX7_goesRow_11 : decode cX7_goesRow 11 = .ok (.iconst 0, 1) := by decide +kernel
theorem dX7_goesRow_12 : decode cX7_goesRow 12 = .ok (.iaload, 1) := by decide +kernel
theorem dX7_goesRow_13 : decode cX7_goesRow 13 = .ok (.istore_n 3, 1) := by decide +kernel
theorem dX7_goesRow_14 : decode cX7_goesRow 14 = .ok (.aload_n 0, 1) := by decide +kernel
theorem dX7_goesRow_15 : decode cX7_goesRow 15 = .ok (.getfield 261, 3) := by decide +kernel
theorem dX7_goesRow_18 : decode cX7_goesRow 18 = .ok (.iconst 0, 1) := by decide +kernel
theorem dX7_goesRow_19 : decode cX7_goesRow 19 = .ok (.iconst 0, 1) := by decide +kernel
theorem dX7_goesRow_20 : decode cX7_goesRow 20 = .ok (.iastore, 1) := by decide +kernel
theorem dX7_goesRow_21 : decode cX7_goesRow 21 = .ok (.aload_n 0, 1) := by decide +kernel
theorem dX7_goesRow_22 : decode cX7_goesRow 22 = .ok (.getfield 264, 3) := by decide +kernel
theorem dX7_goesRow_25 : decode cX7_goesRow 25 = .ok (.iconst 0, 1) := by decide +kernel
theorem dX7_goesRow_26 : decode cX7_goesRow 26 = .ok (.aload_n 0, 1) := by decide +kernel
theorem dX7_goesRow_27 : decode cX7_goesRow 27 = .ok (.iload_n 2, 1) := by decide +kernel
theorem dX7_goesRow_28 : decode cX7_goesRow 28 = .ok (.invokevirtual 490, 3) := by decide +kernel
theorem dX7_goesRow_31 : decode cX7_goesRow 31 = .ok (.iastore, 1) := by decide +kernel
theorem dX7_goesRow_32 : decode cX7_goesRow 32 = .ok (.iconst 0, 1) := by decide +kernel
theorem dX7_goesRow_33 : decode cX7_goesRow 33 = .ok (.istore 4, 2) := by decide +kernel
theorem dX7_goesRow_35 : decode cX7_goesRow 35 = .ok (.iload 4, 2) := by decide +kernel
theorem dX7_goesRow_37 : decode cX7_goesRow 37 = .ok (.iload_n 1, 1) := by decide +kernel
theorem dX7_goesRow_38 : decode cX7_goesRow 38 = .ok (.if_icmp .ge 118, 3) := by decide +kernel
theorem dX7_goesRow_41 : decode cX7_goesRow 41 = .ok (.aload_n 0, 1) := by decide +kernel
theorem dX7_goesRow_42 : decode cX7_goesRow 42 = .ok (.iload_n 2, 1) := by decide +kernel
theorem dX7_goesRow_43 : decode cX7_goesRow 43 = .ok (.iload_n 3, 1) := by decide +kernel
theorem dX7_goesRow_44 : decode cX7_goesRow 44 = .ok (.aload_n 0, 1) := by decide +kernel
theorem dX7_goesRow_45 : decode cX7_goesRow 45 = .ok (.getfield 168, 3) := by decide +kernel
theorem dX7_goesRow_48 : decode cX7_goesRow 48 = .ok (.iconst 0, 1) := by decide +kernel
theorem dX7_goesRow_49 : decode cX7_goesRow 49 = .ok (.iaload, 1) := by decide +kernel
theorem dX7_goesRow_50 : decode cX7_goesRow 50 = .ok (.iload 4, 2) := by decide +kernel
theorem dX7_goesRow_52 : decode cX7_goesRow 52 = .ok (.iadd, 1) := by decide +kernel
theorem dX7_goesRow_53 : decode cX7_goesRow 53 = .ok (.aload_n 0, 1) := by decide +kernel
theorem dX7_goesRow_54 : decode cX7_goesRow 54 = .ok (.getfield 171, 3) := by decide +kernel
theorem dX7_goesRow_57 : decode cX7_goesRow 57 = .ok (.iconst 0, 1) := by decide +kernel
theorem dX7_goesRow_58 : decode cX7_goesRow 58 = .ok (.iaload, 1) := by decide +kernel
theorem dX7_goesRow_59 : decode cX7_goesRow 59 = .ok (.invokevirtual 535, 3) := by decide +kernel
theorem dX7_goesRow_62 : decode cX7_goesRow 62 = .ok (.aload_n 0, 1) := by decide +kernel
theorem dX7_goesRow_63 : decode cX7_goesRow 63 = .ok (.aload_n 0, 1) := by decide +kernel
theorem dX7_goesRow_64 : decode cX7_goesRow 64 = .ok (.getfield 7, 3) := by decide +kernel
theorem dX7_goesRow_67 : decode cX7_goesRow 67 = .ok (.iload 4, 2) := by decide +kernel
theorem dX7_goesRow_69 : decode cX7_goesRow 69 = .ok (.iaload, 1) := by decide +kernel
theorem dX7_goesRow_70 : decode cX7_goesRow 70 = .ok (.invokevirtual 550, 3) := by decide +kernel
theorem dX7_goesRow_73 : decode cX7_goesRow 73 = .ok (.ifCond .eq 5, 3) := by decide +kernel
theorem dX7_goesRow_76 : decode cX7_goesRow 76 = .ok (.iconst 0, 1) := by decide +kernel
theorem dX7_goesRow_77 : decode cX7_goesRow 77 = .ok (.ireturn, 1) := by decide +kernel
theorem dX7_goesRow_78 : decode cX7_goesRow 78 = .ok (.iload_n 3, 1) := by decide +kernel
theorem dX7_goesRow_79 : decode cX7_goesRow 79 = .ok (.aload_n 0, 1) := by decide +kernel
theorem dX7_goesRow_80 : decode cX7_goesRow 80 = .ok (.aload_n 0, 1) := by decide +kernel
theorem dX7_goesRow_81 : decode cX7_goesRow 81 = .ok (.getfield 7, 3) := by decide +kernel
theorem dX7_goesRow_84 : decode cX7_goesRow 84 = .ok (.iload 4, 2) := by decide +kernel
theorem dX7_goesRow_86 : decode cX7_goesRow 86 = .ok (.iaload, 1) := by decide +kernel
theorem dX7_goesRow_87 : decode cX7_goesRow 87 = .ok (.invokevirtual 553, 3) := by decide +kernel
theorem dX7_goesRow_90 : decode cX7_goesRow 90 = .ok (.iadd, 1) := by decide +kernel
theorem dX7_goesRow_91 : decode cX7_goesRow 91 = .ok (.istore_n 3, 1) := by decide +kernel
theorem dX7_goesRow_92 : decode cX7_goesRow 92 = .ok (.aload_n 0, 1) := by decide +kernel
theorem dX7_goesRow_93 : decode cX7_goesRow 93 = .ok (.iload_n 2, 1) := by decide +kernel
theorem dX7_goesRow_94 : decode cX7_goesRow 94 = .ok (.aload_n 0, 1) := by decide +kernel
theorem dX7_goesRow_95 : decode cX7_goesRow 95 = .ok (.getfield 7, 3) := by decide +kernel
theorem dX7_goesRow_98 : decode cX7_goesRow 98 = .ok (.iload 4, 2) := by decide +kernel
theorem dX7_goesRow_100 : decode cX7_goesRow 100 = .ok (.iaload, 1) := by decide +kernel
theorem dX7_goesRow_101 : decode cX7_goesRow 101 = .ok (.invokevirtual 556, 3) := by decide +kernel
theorem dX7_goesRow_104 : decode cX7_goesRow 104 = .ok (.istore_n 2, 1) := by decide +kernel
theorem dX7_goesRow_105 : decode cX7_goesRow 105 = .ok (.aload_n 0, 1) := by decide +kernel
theorem dX7_goesRow_106 : decode cX7_goesRow 106 = .ok (.getfield 261, 3) := by decide +kernel
theorem dX7_goesRow_109 : decode cX7_goesRow 109 = .ok (.iload 4, 2) := by decide +kernel
theorem dX7_goesRow_111 : decode cX7_goesRow 111 = .ok (.iconst 1, 1) := by decide +kernel
theorem dX7_goesRow_112 : decode cX7_goesRow 112 = .ok (.iadd, 1) := by decide +kernel
theorem dX7_goesRow_113 : decode cX7_goesRow 113 = .ok (.iload_n 3, 1) := by decide +kernel
theorem dX7_goesRow_114 : decode cX7_goesRow 114 = .ok (.aload_n 0, 1) := by decide +kernel
theorem dX7_goesRow_115 : decode cX7_goesRow 115 = .ok (.getfield 261, 3) := by decide +kernel
theorem dX7_goesRow_118 : decode cX7_goesRow 118 = .ok (.iload 4, 2) := by decide +kernel
theorem dX7_goesRow_120 : decode cX7_goesRow 120 = .ok (.iaload, 1) := by decide +kernel
theorem dX7_goesRow_121 : decode cX7_goesRow 121 = .ok (.if_icmp .le 7, 3) := by decide +kernel
theorem dX7_goesRow_124 : decode cX7_goesRow 124 = .ok (.iload_n 3, 1) := by decide +kernel
theorem dX7_goesRow_125 : decode cX7_goesRow 125 = .ok (.goto 10, 3) := by decide +kernel
theorem dX7_goesRow_128 : decode cX7_goesRow 128 = .ok (.aload_n 0, 1) := by decide +kernel
theorem dX7_goesRow_129 : decode cX7_goesRow 129 = .ok (.getfield 261, 3) := by decide +kernel
theorem dX7_goesRow_132 : decode cX7_goesRow 132 = .ok (.iload 4, 2) := by decide +kernel
theorem dX7_goesRow_134 : decode cX7_goesRow 134 = .ok (.iaload, 1) := by decide +kernel
theorem dX7_goesRow_135 : decode cX7_goesRow 135 = .ok (.iastore, 1) := by decide +kernel
theorem dX7_goesRow_136 : decode cX7_goesRow 136 = .ok (.aload_n 0, 1) := by decide +kernel
theorem dX7_goesRow_137 : decode cX7_goesRow 137 = .ok (.getfield 264, 3) := by decide +kernel
theorem dX7_goesRow_140 : decode cX7_goesRow 140 = .ok (.iload 4, 2) := by decide +kernel
theorem dX7_goesRow_142 : decode cX7_goesRow 142 = .ok (.iconst 1, 1) := by decide +kernel
theorem dX7_goesRow_143 : decode cX7_goesRow 143 = .ok (.iadd, 1) := by decide +kernel
theorem dX7_goesRow_144 : decode cX7_goesRow 144 = .ok (.aload_n 0, 1) := by decide +kernel
theorem dX7_goesRow_145 : decode cX7_goesRow 145 = .ok (.iload_n 2, 1) := by decide +kernel
theorem dX7_goesRow_146 : decode cX7_goesRow 146 = .ok (.invokevirtual 490, 3) := by decide +kernel
theorem dX7_goesRow_149 : decode cX7_goesRow 149 = .ok (.iastore, 1) := by decide +kernel
theorem dX7_goesRow_150 : decode cX7_goesRow 150 = .ok (.iinc 4 1, 3) := by decide +kernel
theorem dX7_goesRow_153 : decode cX7_goesRow 153 = .ok (.goto (-118), 3) := by decide +kernel
theorem dX7_goesRow_156 : decode cX7_goesRow 156 = .ok (.iconst 1, 1) := by decide +kernel
theorem dX7_goesRow_157 : decode cX7_goesRow 157 = .ok (.ireturn, 1) := by decide +kernel
set_option maxRecDepth 20000 in
theorem ggX7_stop_X7_areWishes : GoodIn wsX7_stop wsX7_areWishes := goodIn_r _ [12, 13, 14, 15, 16, 11, 17, 18, 4, 135, 136, 137, 138, 139, 140, 141, 142, 143, 144, 145, 146, 147, 148, 149, 150, 151, 152, 153, 154, 155, 156, 157, 158, 159, 160, 161, 162, 163, 164, 165, 166, 167, 168, 169, 170, 171, 172, 173, 174, 175, 176, 177, 178, 179, 180, 181, 182, 183, 184, 185, 186, 187, 188, 189, 190, 191, 192, 193, 194, 195, 196, 197, 198, 199, 200, 201, 202, 203, 204, 205, 206, 207, 208, 209, 210, 211, 212, 213, 214, 215, 216, 217, 218, 219, 220, 221, 222, 223, 224, 225, 226] rfl (by decide +kernel)
set_option maxRecDepth 20000 in
theorem gX7_stop_X7_areWishes : GoodIn wsX7_stop (wsV RX7 592 RX7 yX7_areWishes wsX7_areWishes) := goodIn_app (goodIn_of _ (by decide +kernel)) ggX7_stop_X7_areWishes
set_option maxRecDepth 20000 in
theorem ggX7_stop_X7_bears : GoodIn wsX7_stop wsX7_bears := goodIn_r _ [22, 23, 24, 11, 25, 26, 27, 28, 29, 30, 31, 32, 135, 136, 137, 138, 139, 140, 141, 142, 143, 144, 145, 146, 147, 148, 149, 150, 151, 152, 153, 154, 155, 156, 157, 158, 159, 160, 161, 162, 163, 164, 165, 166, 167, 168, 169, 170, 171, 172, 173, 174, 175, 176, 177, 178, 179, 180, 181, 182, 183, 184, 185, 186, 187, 188, 189, 190, 191, 192, 193, 194, 195, 196, 197, 198, 199, 200, 201, 202, 203, 204, 205, 206, 207, 208, 209, 210, 211, 212, 213, 214, 215, 216, 217, 218, 219, 220, 221, 222, 223, 224, 225, 226] rfl (by decide +kernel)
set_option maxRecDepth 20000 in
theorem gX7_stop_X7_bears : GoodIn wsX7_stop (wsV RX7 623 RX7 yX7_bears wsX7_bears) := goodIn_app (goodIn_of _ (by decide +kernel)) ggX7_stop_X7_bears
set_option maxRecDepth 20000 in
theorem ggX7_stop_X7_goesRow : GoodIn wsX7_stop wsX7_goesRow := goodIn_r _ [36, 37, 38, 6, 7, 39, 40, 13, 41, 42, 43, 11, 44, 45, 4, 46, 47, 48, 49, 50, 51, 52, 53, 54, 55, 56, 57, 58, 59, 60, 61, 62, 63, 64, 65, 66, 67, 68, 69, 70, 71, 72, 73, 74, 75, 76, 77, 78, 79, 80, 81, 82, 83, 84, 85, 86, 87, 88, 89, 90, 91, 92, 93, 94, 95, 96, 97, 98, 99, 100, 101, 102, 103, 104, 105, 106, 107, 108, 109, 110, 111, 112, 113, 114, 115, 116, 117, 118, 119, 120, 121, 122, 123, 124, 125, 126, 127, 128, 129, 135, 136, 137, 138, 139, 140, 141, 142, 143, 144, 145, 146, 147, 148, 149, 150, 151, 152, 153, 154, 155, 156, 157, 158, 159, 160, 161, 162, 163, 164, 165, 166, 167, 168, 169, 170, 171, 172, 173, 174, 175, 176, 177, 178, 179, 180, 181, 182, 183, 184, 185, 186, 187, 188, 189, 190, 191, 192, 193, 194, 195, 196, 197, 198, 199, 200, 201, 202, 203, 204, 205, 206, 207, 208, 209, 210, 211, 212, 213, 214, 215, 216, 217, 218, 219, 220, 221, 222, 223, 224, 225, 226] rfl (by decide +kernel)
set_option maxRecDepth 20000 in
theorem gX7_stop_X7_goesRow : GoodIn wsX7_stop (wsV RX7 626 RX7 yX7_goesRow wsX7_goesRow) := goodIn_app (goodIn_of _ (by decide +kernel)) ggX7_stop_X7_goesRow
set_option maxRecDepth 20000 in
theorem ggX7_stop_X7_refuses : GoodIn wsX7_stop wsX7_refuses := goodIn_r _ [133, 134, 135, 136, 137, 138, 139, 140, 141, 142, 143, 144, 145, 146, 147, 148, 149, 150, 151, 152, 153, 154, 155, 156, 157, 158, 159, 160, 161, 162, 163, 164, 165, 166, 167, 168, 169, 170, 171, 172, 173, 174, 175, 176, 177, 178, 179, 180, 181, 182, 183, 184, 185, 186, 187, 188, 189, 190, 191, 192, 193, 194, 195, 196, 197, 198, 199, 200, 201, 202, 203, 204, 205, 206, 207, 208, 209, 210, 211, 212, 213, 214, 215, 216, 217, 218, 219, 220, 221, 222, 223, 224, 225, 226] rfl (by decide +kernel)
set_option maxRecDepth 20000 in
theorem gX7_stop_X7_refuses : GoodIn wsX7_stop (wsV RX7 291 RX7 yX7_refuses wsX7_refuses) := goodIn_app (goodIn_of _ (by decide +kernel)) ggX7_stop_X7_refuses
set_option maxRecDepth 20000 in
theorem ggX7_stop_X7_worthOf : GoodIn wsX7_stop wsX7_worthOf := goodIn_r _ [44, 45, 4, 46, 47, 48, 11, 49, 135, 136, 137, 138, 139, 140, 141, 142, 143, 144, 145, 146, 147, 148, 149, 150, 151, 152, 153, 154, 155, 156, 157, 158, 159, 160, 161, 162, 163, 164, 165, 166, 167, 168, 169, 170, 171, 172, 173, 174, 175, 176, 177, 178, 179, 180, 181, 182, 183, 184, 185, 186, 187, 188, 189, 190, 191, 192, 193, 194, 195, 196, 197, 198, 199, 200, 201, 202, 203, 204, 205, 206, 207, 208, 209, 210, 211, 212, 213, 214, 215, 216, 217, 218, 219, 220, 221, 222, 223, 224, 225, 226] rfl (by decide +kernel)
set_option maxRecDepth 20000 in
theorem gX7_stop_X7_worthOf : GoodIn wsX7_stop (wsV RX7 490 RX7 yX7_worthOf wsX7_worthOf) := goodIn_app (goodIn_of _ (by decide +kernel)) ggX7_stop_X7_worthOf
set_option maxRecDepth 20000 in
theorem ggX7_stop_X7_canBear : GoodIn wsX7_stop wsX7_canBear := goodIn_r _ [29, 30, 31, 32, 135, 136, 137, 138, 139, 140, 141, 142, 143, 144, 145, 146, 147, 148, 149, 150, 151, 152, 153, 154, 155, 156, 157, 158, 159, 160, 161, 162, 163, 164, 165, 166, 167, 168, 169, 170, 171, 172, 173, 174, 175, 176, 177, 178, 179, 180, 181, 182, 183, 184, 185, 186, 187, 188, 189, 190, 191, 192, 193, 194, 195, 196, 197, 198, 199, 200, 201, 202, 203, 204, 205, 206, 207, 208, 209, 210, 211, 212, 213, 214, 215, 216, 217, 218, 219, 220, 221, 222, 223, 224, 225, 226] rfl (by decide +kernel)
set_option maxRecDepth 20000 in
theorem gX7_stop_X7_canBear : GoodIn wsX7_stop (wsV RX7 620 RX7 yX7_canBear wsX7_canBear) := goodIn_app (goodIn_of _ (by decide +kernel)) ggX7_stop_X7_canBear
theorem dX7_stop_0 : decode cX7_stop 0 = .ok (.aload_n 0, 1) := by decide +kernel
theorem dX7_stop_1 : decode cX7_stop 1 = .ok (.getfield 13, 3) := by decide +kernel
theorem dX7_stop_4 : decode cX7_stop 4 = .ok (.istore_n 1, 1) := by decide +kernel
theorem dX7_stop_5 : decode cX7_stop 5 = .ok (.aload_n 0, 1) := by decide +kernel
theorem dX7_stop_6 : decode cX7_stop 6 = .ok (.iconst 0, 1) := by decide +kernel
theorem dX7_stop_7 : decode cX7_stop 7 = .ok (.putfield 13, 3) := by decide +kernel
theorem dX7_stop_10 : decode cX7_stop 10 = .ok (.iload_n 1, 1) := by decide +kernel
theorem dX7_stop_11 : decode cX7_stop 11 = .ok (.bipush 12, 2) := by decide +kernel
theorem dX7_stop_13 : decode cX7_stop 13 = .ok (.if_icmp .gt 28, 3) := by decide +kernel
theorem dX7_stop_16 : decode cX7_stop 16 = .ok (.aload_n 0, 1) := by decide +kernel
theorem dX7_stop_17 : decode cX7_stop 17 = .ok (.iload_n 1, 1) := by decide +kernel
theorem dX7_stop_18 : decode cX7_stop 18 = .ok (.iconst 0, 1) := by decide +kernel
theorem dX7_stop_19 : decode cX7_stop 19 = .ok (.invokevirtual 592, 3) := by decide +kernel
theorem dX7_stop_22 : decode cX7_stop 22 = .ok (.ifCond .eq 19, 3) := by decide +kernel
theorem dX7_stop_25 : decode cX7_stop 25 = .ok (.aload_n 0, 1) := by decide +kernel
theorem dX7_stop_26 : decode cX7_stop 26 = .ok (.iconst 0, 1) := by decide +kernel
theorem dX7_stop_27 : decode cX7_stop 27 = .ok (.invokevirtual 623, 3) := by decide +kernel
theorem dX7_stop_30 : decode cX7_stop 30 = .ok (.ifCond .eq 11, 3) := by decide +kernel
theorem dX7_stop_33 : decode cX7_stop 33 = .ok (.aload_n 0, 1) := by decide +kernel
theorem dX7_stop_34 : decode cX7_stop 34 = .ok (.iload_n 1, 1) := by decide +kernel
theorem dX7_stop_35 : decode cX7_stop 35 = .ok (.invokevirtual 626, 3) := by decide +kernel
theorem dX7_stop_38 : decode cX7_stop 38 = .ok (.ifCond .ne 9, 3) := by decide +kernel
theorem dX7_stop_41 : decode cX7_stop 41 = .ok (.aload_n 0, 1) := by decide +kernel
theorem dX7_stop_42 : decode cX7_stop 42 = .ok (.iconst 5, 1) := by decide +kernel
theorem dX7_stop_43 : decode cX7_stop 43 = .ok (.invokevirtual 291, 3) := by decide +kernel
theorem dX7_stop_46 : decode cX7_stop 46 = .ok (.ireturn, 1) := by decide +kernel
theorem dX7_stop_47 : decode cX7_stop 47 = .ok (.aload_n 0, 1) := by decide +kernel
theorem dX7_stop_48 : decode cX7_stop 48 = .ok (.iload_n 1, 1) := by decide +kernel
theorem dX7_stop_49 : decode cX7_stop 49 = .ok (.putfield 255, 3) := by decide +kernel
theorem dX7_stop_52 : decode cX7_stop 52 = .ok (.iconst 0, 1) := by decide +kernel
theorem dX7_stop_53 : decode cX7_stop 53 = .ok (.istore_n 2, 1) := by decide +kernel
theorem dX7_stop_54 : decode cX7_stop 54 = .ok (.aload_n 0, 1) := by decide +kernel
theorem dX7_stop_55 : decode cX7_stop 55 = .ok (.aload_n 0, 1) := by decide +kernel
theorem dX7_stop_56 : decode cX7_stop 56 = .ok (.getfield 81, 3) := by decide +kernel
theorem dX7_stop_59 : decode cX7_stop 59 = .ok (.aload_n 0, 1) := by decide +kernel
theorem dX7_stop_60 : decode cX7_stop 60 = .ok (.getfield 51, 3) := by decide +kernel
theorem dX7_stop_63 : decode cX7_stop 63 = .ok (.iaload, 1) := by decide +kernel
theorem dX7_stop_64 : decode cX7_stop 64 = .ok (.invokevirtual 490, 3) := by decide +kernel
theorem dX7_stop_67 : decode cX7_stop 67 = .ok (.istore_n 3, 1) := by decide +kernel
theorem dX7_stop_68 : decode cX7_stop 68 = .ok (.iconst 0, 1) := by decide +kernel
theorem dX7_stop_69 : decode cX7_stop 69 = .ok (.istore 4, 2) := by decide +kernel
theorem dX7_stop_71 : decode cX7_stop 71 = .ok (.iload 4, 2) := by decide +kernel
theorem dX7_stop_73 : decode cX7_stop 73 = .ok (.iload_n 1, 1) := by decide +kernel
theorem dX7_stop_74 : decode cX7_stop 74 = .ok (.if_icmp .gt 106, 3) := by decide +kernel
theorem dX7_stop_77 : decode cX7_stop 77 = .ok (.aload_n 0, 1) := by decide +kernel
theorem dX7_stop_78 : decode cX7_stop 78 = .ok (.getfield 258, 3) := by decide +kernel
theorem dX7_stop_81 : decode cX7_stop 81 = .ok (.iload 4, 2) := by decide +kernel
theorem dX7_stop_83 : decode cX7_stop 83 = .ok (.lconst 0, 1) := by decide +kernel
theorem dX7_stop_84 : decode cX7_stop 84 = .ok (.lastore, 1) := by decide +kernel
theorem dX7_stop_85 : decode cX7_stop 85 = .ok (.iconst 1, 1) := by decide +kernel
theorem dX7_stop_86 : decode cX7_stop 86 = .ok (.istore 5, 2) := by decide +kernel
theorem dX7_stop_88 : decode cX7_stop 88 = .ok (.iload 5, 2) := by decide +kernel
theorem dX7_stop_90 : decode cX7_stop 90 = .ok (.sipush 999, 3) := by decide +kernel
theorem dX7_stop_93 : decode cX7_stop 93 = .ok (.if_icmp .gt 57, 3) := by decide +kernel
theorem dX7_stop_96 : decode cX7_stop 96 = .ok (.aload_n 0, 1) := by decide +kernel
theorem dX7_stop_97 : decode cX7_stop 97 = .ok (.getfield 258, 3) := by decide +kernel
theorem dX7_stop_100 : decode cX7_stop 100 = .ok (.iload 4, 2) := by decide +kernel
theorem dX7_stop_102 : decode cX7_stop 102 = .ok (.dup2, 1) := by decide +kernel
theorem dX7_stop_103 : decode cX7_stop 103 = .ok (.laload, 1) := by decide +kernel
theorem dX7_stop_104 : decode cX7_stop 104 = .ok (.aload_n 0, 1) := by decide +kernel
theorem dX7_stop_105 : decode cX7_stop 105 = .ok (.iload 5, 2) := by decide +kernel
theorem dX7_stop_107 : decode cX7_stop 107 = .ok (.invokevirtual 620, 3) := by decide +kernel
theorem dX7_stop_110 : decode cX7_stop 110 = .ok (.ifCond .ne 7, 3) := by decide +kernel
theorem dX7_stop_113 : decode cX7_stop 113 = .ok (.lconst 0, 1) := by decide +kernel
theorem dX7_stop_114 : decode cX7_stop 114 = .ok (.goto 28, 3) := by decide +kernel
theorem dX7_stop_117 : decode cX7_stop 117 = .ok (.iload 5, 2) := by decide +kernel
theorem dX7_stop_119 : decode cX7_stop 119 = .ok (.aload_n 0, 1) := by decide +kernel
theorem dX7_stop_120 : decode cX7_stop 120 = .ok (.getfield 261, 3) := by decide +kernel
theorem dX7_stop_123 : decode cX7_stop 123 = .ok (.iload 4, 2) := by decide +kernel
theorem dX7_stop_125 : decode cX7_stop 125 = .ok (.iaload, 1) := by decide +kernel
theorem dX7_stop_126 : decode cX7_stop 126 = .ok (.if_icmp .lt 14, 3) := by decide +kernel
theorem dX7_stop_129 : decode cX7_stop 129 = .ok (.aload_n 0, 1) := by decide +kernel
theorem dX7_stop_130 : decode cX7_stop 130 = .ok (.getfield 264, 3) := by decide +kernel
theorem dX7_stop_133 : decode cX7_stop 133 = .ok (.iload 4, 2) := by decide +kernel
theorem dX7_stop_135 : decode cX7_stop 135 = .ok (.iaload, 1) := by decide +kernel
theorem dX7_stop_136 : decode cX7_stop 136 = .ok (.i2l, 1) := by decide +kernel
theorem dX7_stop_137 : decode cX7_stop 137 = .ok (.goto 5, 3) := by decide +kernel
theorem dX7_stop_140 : decode cX7_stop 140 = .ok (.iload_n 3, 1) := by decide +kernel
theorem dX7_stop_141 : decode cX7_stop 141 = .ok (.i2l, 1) := by decide +kernel
theorem dX7_stop_142 : decode cX7_stop 142 = .ok (.ladd, 1) := by decide +kernel
theorem dX7_stop_143 : decode cX7_stop 143 = .ok (.lastore, 1) := by decide +kernel
theorem dX7_stop_144 : decode cX7_stop 144 = .ok (.iinc 5 1, 3) := by decide +kernel
theorem dX7_stop_147 : decode cX7_stop 147 = .ok (.goto (-59), 3) := by decide +kernel
theorem dX7_stop_150 : decode cX7_stop 150 = .ok (.aload_n 0, 1) := by decide +kernel
theorem dX7_stop_151 : decode cX7_stop 151 = .ok (.getfield 258, 3) := by decide +kernel
theorem dX7_stop_154 : decode cX7_stop 154 = .ok (.iload 4, 2) := by decide +kernel
theorem dX7_stop_156 : decode cX7_stop 156 = .ok (.laload, 1) := by decide +kernel
theorem dX7_stop_157 : decode cX7_stop 157 = .ok (.aload_n 0, 1) := by decide +kernel
theorem dX7_stop_158 : decode cX7_stop 158 = .ok (.getfield 258, 3) := by decide +kernel
theorem dX7_stop_161 : decode cX7_stop 161 = .ok (.iload_n 2, 1) := by decide +kernel
theorem dX7_stop_162 : decode cX7_stop 162 = .ok (.laload, 1) := by decide +kernel
theorem dX7_stop_163 : decode cX7_stop 163 = .ok (.lcmp, 1) := by decide +kernel
theorem dX7_stop_164 : decode cX7_stop 164 = .ok (.ifCond .le 8, 3) := by decide +kernel
theorem dX7_stop_167 : decode cX7_stop 167 = .ok (.iload 4, 2) := by decide +kernel
theorem dX7_stop_169 : decode cX7_stop 169 = .ok (.goto 4, 3) := by decide +kernel
theorem dX7_stop_172 : decode cX7_stop 172 = .ok (.iload_n 2, 1) := by decide +kernel
theorem dX7_stop_173 : decode cX7_stop 173 = .ok (.istore_n 2, 1) := by decide +kernel
theorem dX7_stop_174 : decode cX7_stop 174 = .ok (.iinc 4 1, 3) := by decide +kernel
theorem dX7_stop_177 : decode cX7_stop 177 = .ok (.goto (-106), 3) := by decide +kernel
theorem dX7_stop_180 : decode cX7_stop 180 = .ok (.iload_n 2, 1) := by decide +kernel
theorem dX7_stop_181 : decode cX7_stop 181 = .ok (.ireturn, 1) := by decide +kernel
set_option maxRecDepth 20000 in
theorem ggX7_value_X7_is : GoodIn wsX7_value wsX7_is := goodIn_r _ [7] rfl (by decide +kernel)
set_option maxRecDepth 20000 in
theorem gX7_value_X7_is : GoodIn wsX7_value (va_wsS RX7 381 yX7_is wsX7_is) := goodIn_app (goodIn_of _ (by decide +kernel)) ggX7_value_X7_is
theorem dX7_value_0 : decode cX7_value 0 = .ok (.iload_n 1, 1) := by decide +kernel
theorem dX7_value_1 : decode cX7_value 1 = .ok (.iconst 0, 1) := by decide +kernel
theorem dX7_value_2 : decode cX7_value 2 = .ok (.aload_n 0, 1) := by decide +kernel
theorem dX7_value_3 : decode cX7_value 3 = .ok (.getfield 255, 3) := by decide +kernel
theorem dX7_value_6 : decode cX7_value 6 = .ok (.invokestatic 381, 3) := by decide +kernel
theorem dX7_value_9 : decode cX7_value 9 = .ok (.ifCond .eq 12, 3) := by decide +kernel
theorem dX7_value_12 : decode cX7_value 12 = .ok (.aload_n 0, 1) := by decide +kernel
theorem dX7_value_13 : decode cX7_value 13 = .ok (.getfield 258, 3) := by decide +kernel
theorem dX7_value_16 : decode cX7_value 16 = .ok (.iload_n 1, 1) := by decide +kernel
theorem dX7_value_17 : decode cX7_value 17 = .ok (.laload, 1) := by decide +kernel
theorem dX7_value_18 : decode cX7_value 18 = .ok (.goto 6, 3) := by decide +kernel
theorem dX7_value_21 : decode cX7_value 21 = .ok (.ldc2_w 629, 3) := by decide +kernel
theorem dX7_value_24 : decode cX7_value 24 = .ok (.lreturn, 1) := by decide +kernel
set_option maxRecDepth 20000 in
theorem ggX7_nextSaid_X7_asks : GoodIn wsX7_nextSaid wsX7_asks := goodIn_r _ [10, 11, 12, 13, 14, 86, 87, 88, 89, 90, 91, 92, 93, 94, 95, 96, 97, 98, 99, 100, 101, 102, 103, 104, 105, 106, 107, 108, 109, 110, 111, 112, 113, 114, 115, 116, 117, 118, 119, 120, 121, 122, 123, 124, 125, 126, 127, 128, 129, 130, 131, 132, 133, 134, 135, 136, 137, 138, 139, 140, 141, 142, 143, 144, 145, 146, 147, 148, 149, 150, 151, 152, 153, 154, 155, 156, 157, 158, 159, 160, 161, 162, 163, 164, 165, 166, 167, 168, 169, 170, 171, 172, 173, 174, 175, 176, 177] rfl (by decide +kernel)
set_option maxRecDepth 20000 in
theorem gX7_nextSaid_X7_asks : GoodIn wsX7_nextSaid (wsV RX7 535 RX7 yX7_asks wsX7_asks) := goodIn_app (goodIn_of _ (by decide +kernel)) ggX7_nextSaid_X7_asks
set_option maxRecDepth 20000 in
theorem ggX7_nextSaid_X7_whyNot : GoodIn wsX7_nextSaid wsX7_whyNot := goodIn_r _ [18, 2, 19, 11, 20, 21, 22, 23, 9, 24, 25, 26, 27, 28, 29, 30, 31, 32, 33, 34, 35, 36, 37, 38, 39, 40, 41, 42, 43, 44, 45, 46, 47, 48, 49, 50, 51, 52, 53, 54, 55, 56, 12, 13, 14, 57, 58, 59, 60, 61, 62, 63, 64, 65, 66, 67, 68, 69, 70, 71, 72, 73, 74, 75, 76, 77, 78, 79, 80, 81, 82, 83, 84, 85, 86, 87, 88, 89, 90, 91, 92, 93, 94, 95, 96, 97, 98, 99, 100, 101, 102, 103, 104, 105, 106, 107, 108, 109, 110, 111, 112, 113, 114, 115, 116, 117, 118, 119, 120, 121, 122, 123, 124, 125, 126, 127, 128, 129, 130, 131, 132, 133, 134, 135, 136, 137, 138, 139, 140, 141, 142, 143, 144, 145, 146, 147, 148, 149, 150, 151, 152, 153, 154, 155, 156, 157, 158, 159, 160, 161, 162, 163, 164, 165, 166, 167, 168, 169, 170, 171, 172, 173, 174, 175, 176, 177] rfl (by decide +kernel)
set_option maxRecDepth 20000 in
theorem gX7_nextSaid_X7_whyNot : GoodIn wsX7_nextSaid (wsV RX7 550 RX7 yX7_whyNot wsX7_whyNot) := goodIn_app (goodIn_of _ (by decide +kernel)) ggX7_nextSaid_X7_whyNot
theorem dX7_nextSaid_0 : decode cX7_nextSaid 0 = .ok (.iload_n 2, 1) := by decide +kernel
theorem dX7_nextSaid_1 : decode cX7_nextSaid 1 = .ok (.istore 4, 2) := by decide +kernel
theorem dX7_nextSaid_3 : decode cX7_nextSaid 3 = .ok (.iload 4, 2) := by decide +kernel
theorem dX7_nextSaid_5 : decode cX7_nextSaid 5 = .ok (.aload_n 0, 1) := by decide +kernel
theorem dX7_nextSaid_6 : decode cX7_nextSaid 6 = .ok (.getfield 66, 3) := by decide +kernel
theorem dX7_nextSaid_9 : decode cX7_nextSaid 9 = .ok (.aload_n 0, 1) := by decide +kernel
theorem dX7_nextSaid_10 : decode cX7_nextSaid 10 = .ok (.getfield 51, 3) := by decide +kernel
theorem dX7_nextSaid_13 : decode cX7_nextSaid 13 = .ok (.iaload, 1) := by decide +kernel
theorem dX7_nextSaid_14 : decode cX7_nextSaid 14 = .ok (.if_icmp .ge 7, 3) := by decide +kernel
theorem dX7_nextSaid_17 : decode cX7_nextSaid 17 = .ok (.iconst 1, 1) := by decide +kernel
theorem dX7_nextSaid_18 : decode cX7_nextSaid 18 = .ok (.goto 4, 3) := by decide +kernel
theorem dX7_nextSaid_21 : decode cX7_nextSaid 21 = .ok (.iconst 0, 1) := by decide +kernel
theorem dX7_nextSaid_22 : decode cX7_nextSaid 22 = .ok (.istore 5, 2) := by decide +kernel
theorem dX7_nextSaid_24 : decode cX7_nextSaid 24 = .ok (.iload 5, 2) := by decide +kernel
theorem dX7_nextSaid_26 : decode cX7_nextSaid 26 = .ok (.ifCond .eq 69, 3) := by decide +kernel
theorem dX7_nextSaid_29 : decode cX7_nextSaid 29 = .ok (.aload_n 0, 1) := by decide +kernel
theorem dX7_nextSaid_30 : decode cX7_nextSaid 30 = .ok (.aload_n 0, 1) := by decide +kernel
theorem dX7_nextSaid_31 : decode cX7_nextSaid 31 = .ok (.getfield 267, 3) := by decide +kernel
theorem dX7_nextSaid_34 : decode cX7_nextSaid 34 = .ok (.iconst 2, 1) := by decide +kernel
theorem dX7_nextSaid_35 : decode cX7_nextSaid 35 = .ok (.iload_n 1, 1) := by decide +kernel
theorem dX7_nextSaid_36 : decode cX7_nextSaid 36 = .ok (.imul, 1) := by decide +kernel
theorem dX7_nextSaid_37 : decode cX7_nextSaid 37 = .ok (.iload_n 3, 1) := by decide +kernel
theorem dX7_nextSaid_38 : decode cX7_nextSaid 38 = .ok (.iadd, 1) := by decide +kernel
theorem dX7_nextSaid_39 : decode cX7_nextSaid 39 = .ok (.iaload, 1) := by decide +kernel
theorem dX7_nextSaid_40 : decode cX7_nextSaid 40 = .ok (.aload_n 0, 1) := by decide +kernel
theorem dX7_nextSaid_41 : decode cX7_nextSaid 41 = .ok (.getfield 270, 3) := by decide +kernel
theorem dX7_nextSaid_44 : decode cX7_nextSaid 44 = .ok (.iload_n 1, 1) := by decide +kernel
theorem dX7_nextSaid_45 : decode cX7_nextSaid 45 = .ok (.iaload, 1) := by decide +kernel
theorem dX7_nextSaid_46 : decode cX7_nextSaid 46 = .ok (.aload_n 0, 1) := by decide +kernel
theorem dX7_nextSaid_47 : decode cX7_nextSaid 47 = .ok (.getfield 282, 3) := by decide +kernel
theorem dX7_nextSaid_50 : decode cX7_nextSaid 50 = .ok (.iload_n 1, 1) := by decide +kernel
theorem dX7_nextSaid_51 : decode cX7_nextSaid 51 = .ok (.iaload, 1) := by decide +kernel
theorem dX7_nextSaid_52 : decode cX7_nextSaid 52 = .ok (.iconst 0, 1) := by decide +kernel
theorem dX7_nextSaid_53 : decode cX7_nextSaid 53 = .ok (.invokevirtual 535, 3) := by decide +kernel
theorem dX7_nextSaid_56 : decode cX7_nextSaid 56 = .ok (.aload_n 0, 1) := by decide +kernel
theorem dX7_nextSaid_57 : decode cX7_nextSaid 57 = .ok (.iload 4, 2) := by decide +kernel
theorem dX7_nextSaid_59 : decode cX7_nextSaid 59 = .ok (.invokevirtual 550, 3) := by decide +kernel
theorem dX7_nextSaid_62 : decode cX7_nextSaid 62 = .ok (.ifCond .ne 6, 3) := by decide +kernel
theorem dX7_nextSaid_65 : decode cX7_nextSaid 65 = .ok (.iload 4, 2) := by decide +kernel
theorem dX7_nextSaid_67 : decode cX7_nextSaid 67 = .ok (.ireturn, 1) := by decide +kernel
theorem dX7_nextSaid_68 : decode cX7_nextSaid 68 = .ok (.iinc 4 1, 3) := by decide +kernel
theorem dX7_nextSaid_71 : decode cX7_nextSaid 71 = .ok (.iload 4, 2) := by decide +kernel
theorem dX7_nextSaid_73 : decode cX7_nextSaid 73 = .ok (.aload_n 0, 1) := by decide +kernel
theorem dX7_nextSaid_74 : decode cX7_nextSaid 74 = .ok (.getfield 66, 3) := by decide +kernel
theorem dX7_nextSaid_77 : decode cX7_nextSaid 77 = .ok (.aload_n 0, 1) := by decide +kernel
theorem dX7_nextSaid_78 : decode cX7_nextSaid 78 = .ok (.getfield 51, 3) := by decide +kernel
theorem dX7_nextSaid_81 : decode cX7_nextSaid 81 = .ok (.iaload, 1) := by decide +kernel
theorem dX7_nextSaid_82 : decode cX7_nextSaid 82 = .ok (.if_icmp .ge 7, 3) := by decide +kernel
theorem dX7_nextSaid_85 : decode cX7_nextSaid 85 = .ok (.iconst 1, 1) := by decide +kernel
theorem dX7_nextSaid_86 : decode cX7_nextSaid 86 = .ok (.goto 4, 3) := by decide +kernel
theorem dX7_nextSaid_89 : decode cX7_nextSaid 89 = .ok (.iconst 0, 1) := by decide +kernel
theorem dX7_nextSaid_90 : decode cX7_nextSaid 90 = .ok (.istore 5, 2) := by decide +kernel
theorem dX7_nextSaid_92 : decode cX7_nextSaid 92 = .ok (.goto (-68), 3) := by decide +kernel
theorem dX7_nextSaid_95 : decode cX7_nextSaid 95 = .ok (.iload 4, 2) := by decide +kernel
theorem dX7_nextSaid_97 : decode cX7_nextSaid 97 = .ok (.ireturn, 1) := by decide +kernel
set_option maxRecDepth 20000 in
theorem ggX7_turns_X7_asks : GoodIn wsX7_turns wsX7_asks := goodIn_r _ [11, 12, 13, 14, 15, 80, 81, 82, 83, 84, 85, 86, 87, 88, 89, 90, 91, 92, 93, 94, 95, 96, 97, 98, 99, 100, 101, 102, 103, 104, 105, 106, 107, 108, 109, 110, 111, 112, 113, 114, 115, 116, 117, 118, 119, 120, 121, 122, 123, 124, 125, 126, 127, 128, 129, 130, 131, 132, 133, 134, 135, 136, 137, 138, 139, 140, 141, 142, 143, 144, 145, 146, 147, 148, 149, 150, 151, 152, 153, 154, 155, 156, 157, 158, 159, 160, 161, 162, 163, 164, 165, 166, 167, 168, 169, 170, 171] rfl (by decide +kernel)
set_option maxRecDepth 20000 in
theorem gX7_turns_X7_asks : GoodIn wsX7_turns (wsV RX7 535 RX7 yX7_asks wsX7_asks) := goodIn_app (goodIn_of _ (by decide +kernel)) ggX7_turns_X7_asks
set_option maxRecDepth 20000 in
theorem ggX7_turns_X7_darkBy : GoodIn wsX7_turns wsX7_darkBy := goodIn_r _ [19, 20, 21, 5, 22, 23, 24, 25, 10, 26, 27, 28, 29, 30, 31, 32, 33, 12, 13, 14, 15, 34, 35, 36, 37, 38, 39, 40, 41, 42, 43, 44, 45, 46, 47, 48, 49, 50, 51, 52, 53, 54, 55, 56, 57, 58, 59, 60, 61, 62, 63, 64, 65, 66, 67, 68, 69, 70, 71, 72, 73, 74, 80, 81, 82, 83, 84, 85, 86, 87, 88, 89, 90, 91, 92, 93, 94, 95, 96, 97, 98, 99, 100, 101, 102, 103, 104, 105, 106, 107, 108, 109, 110, 111, 112, 113, 114, 115, 116, 117, 118, 119, 120, 121, 122, 123, 124, 125, 126, 127, 128, 129, 130, 131, 132, 133, 134, 135, 136, 137, 138, 139, 140, 141, 142, 143, 144, 145, 146, 147, 148, 149, 150, 151, 152, 153, 154, 155, 156, 157, 158, 159, 160, 161, 162, 163, 164, 165, 166, 167, 168, 169, 170, 171] rfl (by decide +kernel)
set_option maxRecDepth 20000 in
theorem gX7_turns_X7_darkBy : GoodIn wsX7_turns (wsV RX7 553 RX7 yX7_darkBy wsX7_darkBy) := goodIn_app (goodIn_of _ (by decide +kernel)) ggX7_turns_X7_darkBy
set_option maxRecDepth 20000 in
theorem ggX7_turns_X7_behind : GoodIn wsX7_turns wsX7_behind := goodIn_r _ [78, 79, 5, 56, 57, 58, 10, 59, 60, 80, 81, 82, 83, 84, 85, 86, 87, 88, 89, 90, 91, 92, 93, 94, 95, 96, 97, 98, 99, 100, 101, 102, 103, 104, 105, 106, 107, 108, 109, 110, 111, 112, 113, 114, 115, 116, 117, 118, 119, 120, 121, 122, 123, 124, 125, 126, 127, 128, 129, 130, 131, 132, 133, 134, 135, 136, 137, 138, 139, 140, 141, 142, 143, 144, 145, 146, 147, 148, 149, 150, 151, 152, 153, 154, 155, 156, 157, 158, 159, 160, 161, 162, 163, 164, 165, 166, 167, 168, 169, 170, 171] rfl (by decide +kernel)
set_option maxRecDepth 20000 in
theorem gX7_turns_X7_behind : GoodIn wsX7_turns (wsV RX7 556 RX7 yX7_behind wsX7_behind) := goodIn_app (goodIn_of _ (by decide +kernel)) ggX7_turns_X7_behind
theorem dX7_turns_0 : decode cX7_turns 0 = .ok (.aload_n 0, 1) := by decide +kernel
theorem dX7_turns_1 : decode cX7_turns 1 = .ok (.getfield 267, 3) := by decide +kernel
theorem dX7_turns_4 : decode cX7_turns 4 = .ok (.iconst 2, 1) := by decide +kernel
theorem dX7_turns_5 : decode cX7_turns 5 = .ok (.iload_n 1, 1) := by decide +kernel
theorem dX7_turns_6 : decode cX7_turns 6 = .ok (.imul, 1) := by decide +kernel
theorem dX7_turns_7 : decode cX7_turns 7 = .ok (.iconst 2, 1) := by decide +kernel
theorem dX7_turns_8 : decode cX7_turns 8 = .ok (.iadd, 1) := by decide +kernel
theorem dX7_turns_9 : decode cX7_turns 9 = .ok (.aload_n 0, 1) := by decide +kernel
theorem dX7_turns_10 : decode cX7_turns 10 = .ok (.getfield 267, 3) := by decide +kernel
theorem dX7_turns_13 : decode cX7_turns 13 = .ok (.iconst 2, 1) := by decide +kernel
theorem dX7_turns_14 : decode cX7_turns 14 = .ok (.iload_n 1, 1) := by decide +kernel
theorem dX7_turns_15 : decode cX7_turns 15 = .ok (.imul, 1) := by decide +kernel
theorem dX7_turns_16 : decode cX7_turns 16 = .ok (.iaload, 1) := by decide +kernel
theorem dX7_turns_17 : decode cX7_turns 17 = .ok (.iastore, 1) := by decide +kernel
theorem dX7_turns_18 : decode cX7_turns 18 = .ok (.aload_n 0, 1) := by decide +kernel
theorem dX7_turns_19 : decode cX7_turns 19 = .ok (.getfield 267, 3) := by decide +kernel
theorem dX7_turns_22 : decode cX7_turns 22 = .ok (.iconst 2, 1) := by decide +kernel
theorem dX7_turns_23 : decode cX7_turns 23 = .ok (.iload_n 1, 1) := by decide +kernel
theorem dX7_turns_24 : decode cX7_turns 24 = .ok (.imul, 1) := by decide +kernel
theorem dX7_turns_25 : decode cX7_turns 25 = .ok (.iconst 3, 1) := by decide +kernel
theorem dX7_turns_26 : decode cX7_turns 26 = .ok (.iadd, 1) := by decide +kernel
theorem dX7_turns_27 : decode cX7_turns 27 = .ok (.aload_n 0, 1) := by decide +kernel
theorem dX7_turns_28 : decode cX7_turns 28 = .ok (.getfield 267, 3) := by decide +kernel
theorem dX7_turns_31 : decode cX7_turns 31 = .ok (.iconst 2, 1) := by decide +kernel
theorem dX7_turns_32 : decode cX7_turns 32 = .ok (.iload_n 1, 1) := by decide +kernel
theorem dX7_turns_33 : decode cX7_turns 33 = .ok (.imul, 1) := by decide +kernel
theorem dX7_turns_34 : decode cX7_turns 34 = .ok (.iconst 1, 1) := by decide +kernel
theorem dX7_turns_35 : decode cX7_turns 35 = .ok (.iadd, 1) := by decide +kernel
theorem dX7_turns_36 : decode cX7_turns 36 = .ok (.iaload, 1) := by decide +kernel
theorem dX7_turns_37 : decode cX7_turns 37 = .ok (.iastore, 1) := by decide +kernel
theorem dX7_turns_38 : decode cX7_turns 38 = .ok (.aload_n 0, 1) := by decide +kernel
theorem dX7_turns_39 : decode cX7_turns 39 = .ok (.getfield 270, 3) := by decide +kernel
theorem dX7_turns_42 : decode cX7_turns 42 = .ok (.iload_n 1, 1) := by decide +kernel
theorem dX7_turns_43 : decode cX7_turns 43 = .ok (.iconst 1, 1) := by decide +kernel
theorem dX7_turns_44 : decode cX7_turns 44 = .ok (.iadd, 1) := by decide +kernel
theorem dX7_turns_45 : decode cX7_turns 45 = .ok (.aload_n 0, 1) := by decide +kernel
theorem dX7_turns_46 : decode cX7_turns 46 = .ok (.getfield 270, 3) := by decide +kernel
theorem dX7_turns_49 : decode cX7_turns 49 = .ok (.iload_n 1, 1) := by decide +kernel
theorem dX7_turns_50 : decode cX7_turns 50 = .ok (.iaload, 1) := by decide +kernel
theorem dX7_turns_51 : decode cX7_turns 51 = .ok (.iastore, 1) := by decide +kernel
theorem dX7_turns_52 : decode cX7_turns 52 = .ok (.aload_n 0, 1) := by decide +kernel
theorem dX7_turns_53 : decode cX7_turns 53 = .ok (.getfield 282, 3) := by decide +kernel
theorem dX7_turns_56 : decode cX7_turns 56 = .ok (.iload_n 1, 1) := by decide +kernel
theorem dX7_turns_57 : decode cX7_turns 57 = .ok (.iconst 1, 1) := by decide +kernel
theorem dX7_turns_58 : decode cX7_turns 58 = .ok (.iadd, 1) := by decide +kernel
theorem dX7_turns_59 : decode cX7_turns 59 = .ok (.aload_n 0, 1) := by decide +kernel
theorem dX7_turns_60 : decode cX7_turns 60 = .ok (.getfield 282, 3) := by decide +kernel
theorem dX7_turns_63 : decode cX7_turns 63 = .ok (.iload_n 1, 1) := by decide +kernel
theorem dX7_turns_64 : decode cX7_turns 64 = .ok (.iaload, 1) := by decide +kernel
theorem dX7_turns_65 : decode cX7_turns 65 = .ok (.iastore, 1) := by decide +kernel
theorem dX7_turns_66 : decode cX7_turns 66 = .ok (.iload_n 3, 1) := by decide +kernel
theorem dX7_turns_67 : decode cX7_turns 67 = .ok (.aload_n 0, 1) := by decide +kernel
theorem dX7_turns_68 : decode cX7_turns 68 = .ok (.getfield 66, 3) := by decide +kernel
theorem dX7_turns_71 : decode cX7_turns 71 = .ok (.aload_n 0, 1) := by decide +kernel
theorem dX7_turns_72 : decode cX7_turns 72 = .ok (.getfield 51, 3) := by decide +kernel
theorem dX7_turns_75 : decode cX7_turns 75 = .ok (.iaload, 1) := by decide +kernel
theorem dX7_turns_76 : decode cX7_turns 76 = .ok (.if_icmp .ne 5, 3) := by decide +kernel
theorem dX7_turns_79 : decode cX7_turns 79 = .ok (.iconst 0, 1) := by decide +kernel
theorem dX7_turns_80 : decode cX7_turns 80 = .ok (.ireturn, 1) := by decide +kernel
theorem dX7_turns_81 : decode cX7_turns 81 = .ok (.aload_n 0, 1) := by decide +kernel
theorem dX7_turns_82 : decode cX7_turns 82 = .ok (.aload_n 0, 1) := by decide +kernel
theorem dX7_turns_83 : decode cX7_turns 83 = .ok (.getfield 267, 3) := by decide +kernel
theorem dX7_turns_86 : decode cX7_turns 86 = .ok (.iconst 2, 1) := by decide +kernel
theorem dX7_turns_87 : decode cX7_turns 87 = .ok (.iload_n 1, 1) := by decide +kernel
theorem dX7_turns_88 : decode cX7_turns 88 = .ok (.imul, 1) := by decide +kernel
theorem dX7_turns_89 : decode cX7_turns 89 = .ok (.iload_n 2, 1) := by decide +kernel
theorem dX7_turns_90 : decode cX7_turns 90 = .ok (.iadd, 1) := by decide +kernel
theorem dX7_turns_91 : decode cX7_turns 91 = .ok (.iaload, 1) := by decide +kernel
theorem dX7_turns_92 : decode cX7_turns 92 = .ok (.aload_n 0, 1) := by decide +kernel
theorem dX7_turns_93 : decode cX7_turns 93 = .ok (.getfield 270, 3) := by decide +kernel
theorem dX7_turns_96 : decode cX7_turns 96 = .ok (.iload_n 1, 1) := by decide +kernel
theorem dX7_turns_97 : decode cX7_turns 97 = .ok (.iaload, 1) := by decide +kernel
theorem dX7_turns_98 : decode cX7_turns 98 = .ok (.aload_n 0, 1) := by decide +kernel
theorem dX7_turns_99 : decode cX7_turns 99 = .ok (.getfield 282, 3) := by decide +kernel
theorem dX7_turns_102 : decode cX7_turns 102 = .ok (.iload_n 1, 1) := by decide +kernel
theorem dX7_turns_103 : decode cX7_turns 103 = .ok (.iaload, 1) := by decide +kernel
theorem dX7_turns_104 : decode cX7_turns 104 = .ok (.iconst 0, 1) := by decide +kernel
theorem dX7_turns_105 : decode cX7_turns 105 = .ok (.invokevirtual 535, 3) := by decide +kernel
theorem dX7_turns_108 : decode cX7_turns 108 = .ok (.aload_n 0, 1) := by decide +kernel
theorem dX7_turns_109 : decode cX7_turns 109 = .ok (.getfield 270, 3) := by decide +kernel
theorem dX7_turns_112 : decode cX7_turns 112 = .ok (.iload_n 1, 1) := by decide +kernel
theorem dX7_turns_113 : decode cX7_turns 113 = .ok (.iconst 1, 1) := by decide +kernel
theorem dX7_turns_114 : decode cX7_turns 114 = .ok (.iadd, 1) := by decide +kernel
theorem dX7_turns_115 : decode cX7_turns 115 = .ok (.dup2, 1) := by decide +kernel
theorem dX7_turns_116 : decode cX7_turns 116 = .ok (.iaload, 1) := by decide +kernel
theorem dX7_turns_117 : decode cX7_turns 117 = .ok (.aload_n 0, 1) := by decide +kernel
theorem dX7_turns_118 : decode cX7_turns 118 = .ok (.iload_n 3, 1) := by decide +kernel
theorem dX7_turns_119 : decode cX7_turns 119 = .ok (.invokevirtual 553, 3) := by decide +kernel
theorem dX7_turns_122 : decode cX7_turns 122 = .ok (.iadd, 1) := by decide +kernel
theorem dX7_turns_123 : decode cX7_turns 123 = .ok (.iastore, 1) := by decide +kernel
theorem dX7_turns_124 : decode cX7_turns 124 = .ok (.aload_n 0, 1) := by decide +kernel
theorem dX7_turns_125 : decode cX7_turns 125 = .ok (.getfield 267, 3) := by decide +kernel
theorem dX7_turns_128 : decode cX7_turns 128 = .ok (.iconst 2, 1) := by decide +kernel
theorem dX7_turns_129 : decode cX7_turns 129 = .ok (.iload_n 1, 1) := by decide +kernel
theorem dX7_turns_130 : decode cX7_turns 130 = .ok (.imul, 1) := by decide +kernel
theorem dX7_turns_131 : decode cX7_turns 131 = .ok (.iconst 2, 1) := by decide +kernel
theorem dX7_turns_132 : decode cX7_turns 132 = .ok (.iadd, 1) := by decide +kernel
theorem dX7_turns_133 : decode cX7_turns 133 = .ok (.iload_n 2, 1) := by decide +kernel
theorem dX7_turns_134 : decode cX7_turns 134 = .ok (.iadd, 1) := by decide +kernel
theorem dX7_turns_135 : decode cX7_turns 135 = .ok (.aload_n 0, 1) := by decide +kernel
theorem dX7_turns_136 : decode cX7_turns 136 = .ok (.aload_n 0, 1) := by decide +kernel
theorem dX7_turns_137 : decode cX7_turns 137 = .ok (.getfield 267, 3) := by decide +kernel
theorem dX7_turns_140 : decode cX7_turns 140 = .ok (.iconst 2, 1) := by decide +kernel
theorem dX7_turns_141 : decode cX7_turns 141 = .ok (.iload_n 1, 1) := by decide +kernel
theorem dX7_turns_142 : decode cX7_turns 142 = .ok (.imul, 1) := by decide +kernel
theorem dX7_turns_143 : decode cX7_turns 143 = .ok (.iload_n 2, 1) := by decide +kernel
theorem dX7_turns_144 : decode cX7_turns 144 = .ok (.iadd, 1) := by decide +kernel
theorem dX7_turns_145 : decode cX7_turns 145 = .ok (.iaload, 1) := by decide +kernel
theorem dX7_turns_146 : decode cX7_turns 146 = .ok (.iload_n 3, 1) := by decide +kernel
theorem dX7_turns_147 : decode cX7_turns 147 = .ok (.invokevirtual 556, 3) := by decide +kernel
theorem dX7_turns_150 : decode cX7_turns 150 = .ok (.iastore, 1) := by decide +kernel
theorem dX7_turns_151 : decode cX7_turns 151 = .ok (.aload_n 0, 1) := by decide +kernel
theorem dX7_turns_152 : decode cX7_turns 152 = .ok (.getfield 282, 3) := by decide +kernel
theorem dX7_turns_155 : decode cX7_turns 155 = .ok (.iload_n 1, 1) := by decide +kernel
theorem dX7_turns_156 : decode cX7_turns 156 = .ok (.iconst 1, 1) := by decide +kernel
theorem dX7_turns_157 : decode cX7_turns 157 = .ok (.iadd, 1) := by decide +kernel
theorem dX7_turns_158 : decode cX7_turns 158 = .ok (.dup2, 1) := by decide +kernel
theorem dX7_turns_159 : decode cX7_turns 159 = .ok (.iaload, 1) := by decide +kernel
theorem dX7_turns_160 : decode cX7_turns 160 = .ok (.iconst 1, 1) := by decide +kernel
theorem dX7_turns_161 : decode cX7_turns 161 = .ok (.iadd, 1) := by decide +kernel
theorem dX7_turns_162 : decode cX7_turns 162 = .ok (.iastore, 1) := by decide +kernel
theorem dX7_turns_163 : decode cX7_turns 163 = .ok (.aload_n 0, 1) := by decide +kernel
theorem dX7_turns_164 : decode cX7_turns 164 = .ok (.getfield 270, 3) := by decide +kernel
theorem dX7_turns_167 : decode cX7_turns 167 = .ok (.iload_n 1, 1) := by decide +kernel
theorem dX7_turns_168 : decode cX7_turns 168 = .ok (.iconst 1, 1) := by decide +kernel
theorem dX7_turns_169 : decode cX7_turns 169 = .ok (.iadd, 1) := by decide +kernel
theorem dX7_turns_170 : decode cX7_turns 170 = .ok (.iaload, 1) := by decide +kernel
theorem dX7_turns_171 : decode cX7_turns 171 = .ok (.aload_n 0, 1) := by decide +kernel
theorem dX7_turns_172 : decode cX7_turns 172 = .ok (.getfield 102, 3) := by decide +kernel
theorem dX7_turns_175 : decode cX7_turns 175 = .ok (.aload_n 0, 1) := by decide +kernel
theorem dX7_turns_176 : decode cX7_turns 176 = .ok (.getfield 51, 3) := by decide +kernel
theorem dX7_turns_179 : decode cX7_turns 179 = .ok (.iaload, 1) := by decide +kernel
theorem dX7_turns_180 : decode cX7_turns 180 = .ok (.if_icmp .le 7, 3) := by decide +kernel
theorem dX7_turns_183 : decode cX7_turns 183 = .ok (.iconst 1, 1) := by decide +kernel
theorem dX7_turns_184 : decode cX7_turns 184 = .ok (.goto 4, 3) := by decide +kernel
theorem dX7_turns_187 : decode cX7_turns 187 = .ok (.iconst 0, 1) := by decide +kernel
theorem dX7_turns_188 : decode cX7_turns 188 = .ok (.ireturn, 1) := by decide +kernel
theorem dX7_offers_0 : decode cX7_offers 0 = .ok (.aload_n 0, 1) := by decide +kernel
theorem dX7_offers_1 : decode cX7_offers 1 = .ok (.getfield 279, 3) := by decide +kernel
theorem dX7_offers_4 : decode cX7_offers 4 = .ok (.iload_n 1, 1) := by decide +kernel
theorem dX7_offers_5 : decode cX7_offers 5 = .ok (.iaload, 1) := by decide +kernel
theorem dX7_offers_6 : decode cX7_offers 6 = .ok (.iconst (-1), 1) := by decide +kernel
theorem dX7_offers_7 : decode cX7_offers 7 = .ok (.if_icmp .eq 30, 3) := by decide +kernel
theorem dX7_offers_10 : decode cX7_offers 10 = .ok (.iload_n 2, 1) := by decide +kernel
theorem dX7_offers_11 : decode cX7_offers 11 = .ok (.ifCond .ne 16, 3) := by decide +kernel
theorem dX7_offers_14 : decode cX7_offers 14 = .ok (.iload_n 3, 1) := by decide +kernel
theorem dX7_offers_15 : decode cX7_offers 15 = .ok (.aload_n 0, 1) := by decide +kernel
theorem dX7_offers_16 : decode cX7_offers 16 = .ok (.getfield 276, 3) := by decide +kernel
theorem dX7_offers_19 : decode cX7_offers 19 = .ok (.iload_n 1, 1) := by decide +kernel
theorem dX7_offers_20 : decode cX7_offers 20 = .ok (.iaload, 1) := by decide +kernel
theorem dX7_offers_21 : decode cX7_offers 21 = .ok (.if_icmp .le 20, 3) := by decide +kernel
theorem dX7_offers_24 : decode cX7_offers 24 = .ok (.goto 13, 3) := by decide +kernel
theorem dX7_offers_27 : decode cX7_offers 27 = .ok (.iload_n 3, 1) := by decide +kernel
theorem dX7_offers_28 : decode cX7_offers 28 = .ok (.aload_n 0, 1) := by decide +kernel
theorem dX7_offers_29 : decode cX7_offers 29 = .ok (.getfield 276, 3) := by decide +kernel
theorem dX7_offers_32 : decode cX7_offers 32 = .ok (.iload_n 1, 1) := by decide +kernel
theorem dX7_offers_33 : decode cX7_offers 33 = .ok (.iaload, 1) := by decide +kernel
theorem dX7_offers_34 : decode cX7_offers 34 = .ok (.if_icmp .ge 7, 3) := by decide +kernel
theorem dX7_offers_37 : decode cX7_offers 37 = .ok (.iconst 1, 1) := by decide +kernel
theorem dX7_offers_38 : decode cX7_offers 38 = .ok (.goto 4, 3) := by decide +kernel
theorem dX7_offers_41 : decode cX7_offers 41 = .ok (.iconst 0, 1) := by decide +kernel
theorem dX7_offers_42 : decode cX7_offers 42 = .ok (.istore 5, 2) := by decide +kernel
theorem dX7_offers_44 : decode cX7_offers 44 = .ok (.iload 5, 2) := by decide +kernel
theorem dX7_offers_46 : decode cX7_offers 46 = .ok (.ifCond .ne 4, 3) := by decide +kernel
theorem dX7_offers_49 : decode cX7_offers 49 = .ok (.return_, 1) := by decide +kernel
theorem dX7_offers_50 : decode cX7_offers 50 = .ok (.aload_n 0, 1) := by decide +kernel
theorem dX7_offers_51 : decode cX7_offers 51 = .ok (.getfield 276, 3) := by decide +kernel
theorem dX7_offers_54 : decode cX7_offers 54 = .ok (.iload_n 1, 1) := by decide +kernel
theorem dX7_offers_55 : decode cX7_offers 55 = .ok (.iload_n 3, 1) := by decide +kernel
theorem dX7_offers_56 : decode cX7_offers 56 = .ok (.iastore, 1) := by decide +kernel
theorem dX7_offers_57 : decode cX7_offers 57 = .ok (.aload_n 0, 1) := by decide +kernel
theorem dX7_offers_58 : decode cX7_offers 58 = .ok (.getfield 279, 3) := by decide +kernel
theorem dX7_offers_61 : decode cX7_offers 61 = .ok (.iload_n 1, 1) := by decide +kernel
theorem dX7_offers_62 : decode cX7_offers 62 = .ok (.iload 4, 2) := by decide +kernel
theorem dX7_offers_64 : decode cX7_offers 64 = .ok (.iastore, 1) := by decide +kernel
theorem dX7_offers_65 : decode cX7_offers 65 = .ok (.return_, 1) := by decide +kernel
set_option maxRecDepth 20000 in
theorem ggX7_solves_X7_nextSaid : GoodIn wsX7_solves wsX7_nextSaid := goodIn_r _ [11, 3, 4, 6, 12, 13, 14, 15, 16, 10, 17, 18, 19, 20, 21, 22, 23, 24, 25, 26, 27, 28, 29, 30, 31, 32, 33, 34, 35, 36, 37, 38, 39, 40, 41, 42, 43, 44, 45, 46, 47, 48, 49, 50, 51, 52, 53, 54, 55, 56, 57, 58, 59, 60, 61, 62, 63, 64, 65, 66, 67, 68, 69, 70, 71, 72, 73, 74, 75, 76, 77, 78, 79, 80, 81, 82, 83, 84, 85, 86, 87, 88, 89, 90, 91, 92, 112, 113, 114, 115, 116, 117, 118, 119, 120, 121, 122, 123, 124, 125, 126, 127, 128, 129, 130, 131, 132, 133, 134, 135, 136, 137, 138, 139, 140, 141, 142, 143, 144, 145, 146, 147, 148, 149, 150, 151, 152, 153, 154, 155, 156, 157, 158, 159, 160, 161, 162, 163, 164, 165, 166, 167, 168, 169, 170, 171, 172, 173, 174, 175, 176, 177, 178, 179, 180, 181, 182, 183, 184, 185, 186, 187, 188, 189, 190, 191, 192, 193, 194, 195, 196, 197, 198, 199, 200, 201, 202, 203] rfl (by decide +kernel)
set_option maxRecDepth 20000 in
theorem gX7_solves_X7_nextSaid : GoodIn wsX7_solves (wsV RX7 631 RX7 yX7_nextSaid wsX7_nextSaid) := goodIn_app (goodIn_of _ (by decide +kernel)) ggX7_solves_X7_nextSaid
set_option maxRecDepth 20000 in
theorem ggX7_solves_X7_offers : GoodIn wsX7_solves wsX7_offers := goodIn_r _ [96, 2, 5, 112, 113, 114, 115, 116, 117, 118, 119, 120, 121, 122, 123, 124, 125, 126, 127, 128, 129, 130, 131, 132, 133, 134, 135, 136, 137, 138, 139, 140, 141, 142, 143, 144, 145, 146, 147, 148, 149, 150, 151, 152, 153, 154, 155, 156, 157, 158, 159, 160, 161, 162, 163, 164, 165, 166, 167, 168, 169, 170, 171, 172, 173, 174, 175, 176, 177, 178, 179, 180, 181, 182, 183, 184, 185, 186, 187, 188, 189, 190, 191, 192, 193, 194, 195, 196, 197, 198, 199, 200, 201, 202, 203] rfl (by decide +kernel)
set_option maxRecDepth 20000 in
theorem gX7_solves_X7_offers : GoodIn wsX7_solves (wsV RX7 635 RX7 yX7_offers wsX7_offers) := goodIn_app (goodIn_of _ (by decide +kernel)) ggX7_solves_X7_offers
set_option maxRecDepth 20000 in
theorem ggX7_solves_X7_turns : GoodIn wsX7_solves wsX7_turns := goodIn_r _ [100, 6, 12, 13, 3, 4, 101, 14, 15, 16, 10, 17, 18, 19, 20, 21, 102, 103, 104, 105, 50, 106, 107, 53, 54, 55, 56, 57, 58, 59, 60, 61, 62, 63, 64, 65, 66, 67, 68, 69, 33, 34, 35, 70, 71, 72, 36, 37, 38, 39, 40, 41, 42, 43, 44, 45, 28, 29, 30, 31, 32, 73, 74, 75, 76, 77, 78, 79, 80, 81, 82, 83, 84, 85, 86, 108, 109, 110, 111, 27, 112, 113, 114, 115, 116, 117, 118, 119, 120, 121, 122, 123, 124, 125, 126, 127, 128, 129, 130, 131, 132, 133, 134, 135, 136, 137, 138, 139, 140, 141, 142, 143, 144, 145, 146, 147, 148, 149, 150, 151, 152, 153, 154, 155, 156, 157, 158, 159, 160, 161, 162, 163, 164, 165, 166, 167, 168, 169, 170, 171, 172, 173, 174, 175, 176, 177, 178, 179, 180, 181, 182, 183, 184, 185, 186, 187, 188, 189, 190, 191, 192, 193, 194, 195, 196, 197, 198, 199, 200, 201, 202, 203] rfl (by decide +kernel)
set_option maxRecDepth 20000 in
theorem gX7_solves_X7_turns : GoodIn wsX7_solves (wsV RX7 638 RX7 yX7_turns wsX7_turns) := goodIn_app (goodIn_of _ (by decide +kernel)) ggX7_solves_X7_turns
set_option maxRecDepth 20000 in
theorem ggX7_solves_X7_worthOf : GoodIn wsX7_solves wsX7_worthOf := goodIn_r _ [67, 68, 4, 69, 33, 34, 10, 35, 112, 113, 114, 115, 116, 117, 118, 119, 120, 121, 122, 123, 124, 125, 126, 127, 128, 129, 130, 131, 132, 133, 134, 135, 136, 137, 138, 139, 140, 141, 142, 143, 144, 145, 146, 147, 148, 149, 150, 151, 152, 153, 154, 155, 156, 157, 158, 159, 160, 161, 162, 163, 164, 165, 166, 167, 168, 169, 170, 171, 172, 173, 174, 175, 176, 177, 178, 179, 180, 181, 182, 183, 184, 185, 186, 187, 188, 189, 190, 191, 192, 193, 194, 195, 196, 197, 198, 199, 200, 201, 202, 203] rfl (by decide +kernel)
set_option maxRecDepth 20000 in
theorem gX7_solves_X7_worthOf : GoodIn wsX7_solves (wsV RX7 490 RX7 yX7_worthOf wsX7_worthOf) := goodIn_app (goodIn_of _ (by decide +kernel)) ggX7_solves_X7_worthOf
theorem dX7_solves_0 : decode cX7_solves 0 = .ok (.iload_n 1, 1) := by decide +kernel
theorem dX7_solves_1 : decode cX7_solves 1 = .ok (.istore_n 3, 1) := by decide +kernel
theorem dX7_solves_2 : decode cX7_solves 2 = .ok (.aload_n 0, 1) := by decide +kernel
theorem dX7_solves_3 : decode cX7_solves 3 = .ok (.getfield 273, 3) := by decide +kernel
theorem dX7_solves_6 : decode cX7_solves 6 = .ok (.iload_n 3, 1) := by decide +kernel
theorem dX7_solves_7 : decode cX7_solves 7 = .ok (.iconst 0, 1) := by decide +kernel
theorem dX7_solves_8 : decode cX7_solves 8 = .ok (.iastore, 1) := by decide +kernel
theorem dX7_solves_9 : decode cX7_solves 9 = .ok (.aload_n 0, 1) := by decide +kernel
theorem dX7_solves_10 : decode cX7_solves 10 = .ok (.getfield 279, 3) := by decide +kernel
theorem dX7_solves_13 : decode cX7_solves 13 = .ok (.iload_n 3, 1) := by decide +kernel
theorem dX7_solves_14 : decode cX7_solves 14 = .ok (.iconst (-1), 1) := by decide +kernel
theorem dX7_solves_15 : decode cX7_solves 15 = .ok (.iastore, 1) := by decide +kernel
theorem dX7_solves_16 : decode cX7_solves 16 = .ok (.iload_n 3, 1) := by decide +kernel
theorem dX7_solves_17 : decode cX7_solves 17 = .ok (.iload_n 1, 1) := by decide +kernel
theorem dX7_solves_18 : decode cX7_solves 18 = .ok (.if_icmp .lt 200, 3) := by decide +kernel
theorem dX7_solves_21 : decode cX7_solves 21 = .ok (.iload_n 3, 1) := by decide +kernel
theorem dX7_solves_22 : decode cX7_solves 22 = .ok (.iconst 2, 1) := by decide +kernel
theorem dX7_solves_23 : decode cX7_solves 23 = .ok (.irem, 1) := by decide +kernel
theorem dX7_solves_24 : decode cX7_solves 24 = .ok (.istore 4, 2) := by decide +kernel
theorem dX7_solves_26 : decode cX7_solves 26 = .ok (.aload_n 0, 1) := by decide +kernel
theorem dX7_solves_27 : decode cX7_solves 27 = .ok (.getfield 273, 3) := by decide +kernel
theorem dX7_solves_30 : decode cX7_solves 30 = .ok (.iload_n 3, 1) := by decide +kernel
theorem dX7_solves_31 : decode cX7_solves 31 = .ok (.iaload, 1) := by decide +kernel
theorem dX7_solves_32 : decode cX7_solves 32 = .ok (.aload_n 0, 1) := by decide +kernel
theorem dX7_solves_33 : decode cX7_solves 33 = .ok (.getfield 66, 3) := by decide +kernel
theorem dX7_solves_36 : decode cX7_solves 36 = .ok (.aload_n 0, 1) := by decide +kernel
theorem dX7_solves_37 : decode cX7_solves 37 = .ok (.getfield 51, 3) := by decide +kernel
theorem dX7_solves_40 : decode cX7_solves 40 = .ok (.iaload, 1) := by decide +kernel
theorem dX7_solves_41 : decode cX7_solves 41 = .ok (.if_icmp .le 12, 3) := by decide +kernel
theorem dX7_solves_44 : decode cX7_solves 44 = .ok (.aload_n 0, 1) := by decide +kernel
theorem dX7_solves_45 : decode cX7_solves 45 = .ok (.getfield 273, 3) := by decide +kernel
theorem dX7_solves_48 : decode cX7_solves 48 = .ok (.iload_n 3, 1) := by decide +kernel
theorem dX7_solves_49 : decode cX7_solves 49 = .ok (.iaload, 1) := by decide +kernel
theorem dX7_solves_50 : decode cX7_solves 50 = .ok (.goto 16, 3) := by decide +kernel
theorem dX7_solves_53 : decode cX7_solves 53 = .ok (.aload_n 0, 1) := by decide +kernel
theorem dX7_solves_54 : decode cX7_solves 54 = .ok (.iload_n 3, 1) := by decide +kernel
theorem dX7_solves_55 : decode cX7_solves 55 = .ok (.aload_n 0, 1) := by decide +kernel
theorem dX7_solves_56 : decode cX7_solves 56 = .ok (.getfield 273, 3) := by decide +kernel
theorem dX7_solves_59 : decode cX7_solves 59 = .ok (.iload_n 3, 1) := by decide +kernel
theorem dX7_solves_60 : decode cX7_solves 60 = .ok (.iaload, 1) := by decide +kernel
theorem dX7_solves_61 : decode cX7_solves 61 = .ok (.iload 4, 2) := by decide +kernel
theorem dX7_solves_63 : decode cX7_solves 63 = .ok (.invokevirtual 631, 3) := by decide +kernel
theorem dX7_solves_66 : decode cX7_solves 66 = .ok (.istore 5, 2) := by decide +kernel
theorem dX7_solves_68 : decode cX7_solves 68 = .ok (.aload_n 0, 1) := by decide +kernel
theorem dX7_solves_69 : decode cX7_solves 69 = .ok (.getfield 273, 3) := by decide +kernel
theorem dX7_solves_72 : decode cX7_solves 72 = .ok (.iload_n 3, 1) := by decide +kernel
theorem dX7_solves_73 : decode cX7_solves 73 = .ok (.iload 5, 2) := by decide +kernel
theorem dX7_solves_75 : decode cX7_solves 75 = .ok (.iconst 1, 1) := by decide +kernel
theorem dX7_solves_76 : decode cX7_solves 76 = .ok (.iadd, 1) := by decide +kernel
theorem dX7_solves_77 : decode cX7_solves 77 = .ok (.iastore, 1) := by decide +kernel
theorem dX7_solves_78 : decode cX7_solves 78 = .ok (.iload 5, 2) := by decide +kernel
theorem dX7_solves_80 : decode cX7_solves 80 = .ok (.aload_n 0, 1) := by decide +kernel
theorem dX7_solves_81 : decode cX7_solves 81 = .ok (.getfield 66, 3) := by decide +kernel
theorem dX7_solves_84 : decode cX7_solves 84 = .ok (.aload_n 0, 1) := by decide +kernel
theorem dX7_solves_85 : decode cX7_solves 85 = .ok (.getfield 51, 3) := by decide +kernel
theorem dX7_solves_88 : decode cX7_solves 88 = .ok (.iaload, 1) := by decide +kernel
theorem dX7_solves_89 : decode cX7_solves 89 = .ok (.if_icmp .le 38, 3) := by decide +kernel
theorem dX7_solves_92 : decode cX7_solves 92 = .ok (.iinc 3 (-1), 3) := by decide +kernel
theorem dX7_solves_95 : decode cX7_solves 95 = .ok (.iload_n 3, 1) := by decide +kernel
theorem dX7_solves_96 : decode cX7_solves 96 = .ok (.iload_n 1, 1) := by decide +kernel
theorem dX7_solves_97 : decode cX7_solves 97 = .ok (.if_icmp .lt 118, 3) := by decide +kernel
theorem dX7_solves_100 : decode cX7_solves 100 = .ok (.aload_n 0, 1) := by decide +kernel
theorem dX7_solves_101 : decode cX7_solves 101 = .ok (.iload_n 3, 1) := by decide +kernel
theorem dX7_solves_102 : decode cX7_solves 102 = .ok (.iload_n 3, 1) := by decide +kernel
theorem dX7_solves_103 : decode cX7_solves 103 = .ok (.iconst 2, 1) := by decide +kernel
theorem dX7_solves_104 : decode cX7_solves 104 = .ok (.irem, 1) := by decide +kernel
theorem dX7_solves_105 : decode cX7_solves 105 = .ok (.aload_n 0, 1) := by decide +kernel
theorem dX7_solves_106 : decode cX7_solves 106 = .ok (.getfield 276, 3) := by decide +kernel
theorem dX7_solves_109 : decode cX7_solves 109 = .ok (.iload_n 3, 1) := by decide +kernel
theorem dX7_solves_110 : decode cX7_solves 110 = .ok (.iconst 1, 1) := by decide +kernel
theorem dX7_solves_111 : decode cX7_solves 111 = .ok (.iadd, 1) := by decide +kernel
theorem dX7_solves_112 : decode cX7_solves 112 = .ok (.iaload, 1) := by decide +kernel
theorem dX7_solves_113 : decode cX7_solves 113 = .ok (.aload_n 0, 1) := by decide +kernel
theorem dX7_solves_114 : decode cX7_solves 114 = .ok (.getfield 273, 3) := by decide +kernel
theorem dX7_solves_117 : decode cX7_solves 117 = .ok (.iload_n 3, 1) := by decide +kernel
theorem dX7_solves_118 : decode cX7_solves 118 = .ok (.iaload, 1) := by decide +kernel
theorem dX7_solves_119 : decode cX7_solves 119 = .ok (.iconst 1, 1) := by decide +kernel
theorem dX7_solves_120 : decode cX7_solves 120 = .ok (.isub, 1) := by decide +kernel
theorem dX7_solves_121 : decode cX7_solves 121 = .ok (.invokevirtual 635, 3) := by decide +kernel
theorem dX7_solves_124 : decode cX7_solves 124 = .ok (.goto 91, 3) := by decide +kernel
theorem dX7_solves_127 : decode cX7_solves 127 = .ok (.aload_n 0, 1) := by decide +kernel
theorem dX7_solves_128 : decode cX7_solves 128 = .ok (.iload_n 3, 1) := by decide +kernel
theorem dX7_solves_129 : decode cX7_solves 129 = .ok (.iload 4, 2) := by decide +kernel
theorem dX7_solves_131 : decode cX7_solves 131 = .ok (.iload 5, 2) := by decide +kernel
theorem dX7_solves_133 : decode cX7_solves 133 = .ok (.invokevirtual 638, 3) := by decide +kernel
theorem dX7_solves_136 : decode cX7_solves 136 = .ok (.ifCond .eq 16, 3) := by decide +kernel
theorem dX7_solves_139 : decode cX7_solves 139 = .ok (.aload_n 0, 1) := by decide +kernel
theorem dX7_solves_140 : decode cX7_solves 140 = .ok (.iload_n 3, 1) := by decide +kernel
theorem dX7_solves_141 : decode cX7_solves 141 = .ok (.iload 4, 2) := by decide +kernel
theorem dX7_solves_143 : decode cX7_solves 143 = .ok (.iconst 0, 1) := by decide +kernel
theorem dX7_solves_144 : decode cX7_solves 144 = .ok (.iload 5, 2) := by decide +kernel
theorem dX7_solves_146 : decode cX7_solves 146 = .ok (.invokevirtual 635, 3) := by decide +kernel
theorem dX7_solves_149 : decode cX7_solves 149 = .ok (.goto 66, 3) := by decide +kernel
theorem dX7_solves_152 : decode cX7_solves 152 = .ok (.iload_n 3, 1) := by decide +kernel
theorem dX7_solves_153 : decode cX7_solves 153 = .ok (.iconst 1, 1) := by decide +kernel
theorem dX7_solves_154 : decode cX7_solves 154 = .ok (.iadd, 1) := by decide +kernel
theorem dX7_solves_155 : decode cX7_solves 155 = .ok (.iload_n 2, 1) := by decide +kernel
theorem dX7_solves_156 : decode cX7_solves 156 = .ok (.if_icmp .ne 42, 3) := by decide +kernel
theorem dX7_solves_159 : decode cX7_solves 159 = .ok (.aload_n 0, 1) := by decide +kernel
theorem dX7_solves_160 : decode cX7_solves 160 = .ok (.iload_n 3, 1) := by decide +kernel
theorem dX7_solves_161 : decode cX7_solves 161 = .ok (.iload 4, 2) := by decide +kernel
theorem dX7_solves_163 : decode cX7_solves 163 = .ok (.aload_n 0, 1) := by decide +kernel
theorem dX7_solves_164 : decode cX7_solves 164 = .ok (.aload_n 0, 1) := by decide +kernel
theorem dX7_solves_165 : decode cX7_solves 165 = .ok (.getfield 267, 3) := by decide +kernel
theorem dX7_solves_168 : decode cX7_solves 168 = .ok (.iconst 2, 1) := by decide +kernel
theorem dX7_solves_169 : decode cX7_solves 169 = .ok (.iload_n 2, 1) := by decide +kernel
theorem dX7_solves_170 : decode cX7_solves 170 = .ok (.imul, 1) := by decide +kernel
theorem dX7_solves_171 : decode cX7_solves 171 = .ok (.iaload, 1) := by decide +kernel
theorem dX7_solves_172 : decode cX7_solves 172 = .ok (.invokevirtual 490, 3) := by decide +kernel
theorem dX7_solves_175 : decode cX7_solves 175 = .ok (.aload_n 0, 1) := by decide +kernel
theorem dX7_solves_176 : decode cX7_solves 176 = .ok (.aload_n 0, 1) := by decide +kernel
theorem dX7_solves_177 : decode cX7_solves 177 = .ok (.getfield 267, 3) := by decide +kernel
theorem dX7_solves_180 : decode cX7_solves 180 = .ok (.iconst 2, 1) := by decide +kernel
theorem dX7_solves_181 : decode cX7_solves 181 = .ok (.iload_n 2, 1) := by decide +kernel
theorem dX7_solves_182 : decode cX7_solves 182 = .ok (.imul, 1) := by decide +kernel
theorem dX7_solves_183 : decode cX7_solves 183 = .ok (.iconst 1, 1) := by decide +kernel
theorem dX7_solves_184 : decode cX7_solves 184 = .ok (.iadd, 1) := by decide +kernel
theorem dX7_solves_185 : decode cX7_solves 185 = .ok (.iaload, 1) := by decide +kernel
theorem dX7_solves_186 : decode cX7_solves 186 = .ok (.invokevirtual 490, 3) := by decide +kernel
theorem dX7_solves_189 : decode cX7_solves 189 = .ok (.isub, 1) := by decide +kernel
theorem dX7_solves_190 : decode cX7_solves 190 = .ok (.iload 5, 2) := by decide +kernel
theorem dX7_solves_192 : decode cX7_solves 192 = .ok (.invokevirtual 635, 3) := by decide +kernel
theorem dX7_solves_195 : decode cX7_solves 195 = .ok (.goto 20, 3) := by decide +kernel
theorem dX7_solves_198 : decode cX7_solves 198 = .ok (.iinc 3 1, 3) := by decide +kernel
theorem dX7_solves_201 : decode cX7_solves 201 = .ok (.aload_n 0, 1) := by decide +kernel
theorem dX7_solves_202 : decode cX7_solves 202 = .ok (.getfield 273, 3) := by decide +kernel
theorem dX7_solves_205 : decode cX7_solves 205 = .ok (.iload_n 3, 1) := by decide +kernel
theorem dX7_solves_206 : decode cX7_solves 206 = .ok (.iconst 0, 1) := by decide +kernel
theorem dX7_solves_207 : decode cX7_solves 207 = .ok (.iastore, 1) := by decide +kernel
theorem dX7_solves_208 : decode cX7_solves 208 = .ok (.aload_n 0, 1) := by decide +kernel
theorem dX7_solves_209 : decode cX7_solves 209 = .ok (.getfield 279, 3) := by decide +kernel
theorem dX7_solves_212 : decode cX7_solves 212 = .ok (.iload_n 3, 1) := by decide +kernel
theorem dX7_solves_213 : decode cX7_solves 213 = .ok (.iconst (-1), 1) := by decide +kernel
theorem dX7_solves_214 : decode cX7_solves 214 = .ok (.iastore, 1) := by decide +kernel
theorem dX7_solves_215 : decode cX7_solves 215 = .ok (.goto (-199), 3) := by decide +kernel
theorem dX7_solves_218 : decode cX7_solves 218 = .ok (.return_, 1) := by decide +kernel
set_option maxRecDepth 20000 in
theorem ggX7_rivals_X7_is : GoodIn wsX7_rivals wsX7_is := goodIn_r _ [13] rfl (by decide +kernel)
set_option maxRecDepth 20000 in
theorem gX7_rivals_X7_is : GoodIn wsX7_rivals (va_wsS RX7 381 yX7_is wsX7_is) := goodIn_app (goodIn_of _ (by decide +kernel)) ggX7_rivals_X7_is
set_option maxRecDepth 20000 in
theorem ggX7_rivals_X7_solves : GoodIn wsX7_rivals wsX7_solves := goodIn_r _ [17, 18, 7, 8, 4, 9, 2, 19, 20, 21, 12, 22, 5, 6, 23, 24, 25, 26, 27, 28, 29, 30, 31, 32, 33, 34, 35, 36, 37, 38, 39, 40, 41, 42, 43, 44, 45, 46, 47, 48, 49, 50, 51, 52, 53, 54, 55, 56, 57, 58, 59, 60, 61, 62, 63, 64, 65, 66, 67, 68, 69, 70, 71, 72, 73, 74, 75, 76, 77, 78, 79, 80, 81, 82, 83, 84, 85, 86, 87, 88, 89, 90, 91, 92, 93, 94, 95, 96, 97, 98, 99, 100, 101, 102, 103, 104, 105, 106, 107, 108, 109, 110, 111, 112, 113, 114, 115, 116, 117, 118, 119, 120, 121, 122, 123, 124, 125, 126, 127, 128, 129, 130, 131, 132, 133, 134, 135, 136, 137, 138, 139, 140, 141, 142, 143, 144, 145, 146, 147, 148, 149, 150, 151, 152, 153, 154, 155, 156, 157, 158, 159, 160, 161, 162, 163, 164, 165, 166, 167, 168, 169, 170, 171, 172, 173, 174, 175, 176, 177, 178, 179, 180, 181, 182, 183, 184, 185, 186, 187, 188, 189, 190, 191, 192, 193, 194, 195, 196, 197, 198, 199, 200, 201, 202, 203, 204, 205, 206, 207, 208, 209, 210, 211, 212] rfl (by decide +kernel)
set_option maxRecDepth 20000 in
theorem gX7_rivals_X7_solves : GoodIn wsX7_rivals (wsV RX7 642 RX7 yX7_solves wsX7_solves) := goodIn_app (goodIn_of _ (by decide +kernel)) ggX7_rivals_X7_solves
set_option maxRecDepth 20000 in
theorem ggX7_rivals_X7_turns : GoodIn wsX7_rivals wsX7_turns := goodIn_r _ [109, 2, 5, 6, 8, 4, 110, 23, 24, 25, 12, 26, 27, 28, 29, 30, 111, 112, 113, 114, 59, 115, 116, 62, 63, 64, 65, 66, 67, 68, 69, 70, 71, 72, 73, 74, 75, 76, 77, 78, 42, 43, 44, 79, 80, 81, 45, 46, 47, 48, 49, 50, 51, 52, 53, 54, 37, 38, 39, 40, 41, 82, 83, 84, 85, 86, 87, 88, 89, 90, 91, 92, 93, 94, 95, 117, 118, 119, 120, 36, 121, 122, 123, 124, 125, 126, 127, 128, 129, 130, 131, 132, 133, 134, 135, 136, 137, 138, 139, 140, 141, 142, 143, 144, 145, 146, 147, 148, 149, 150, 151, 152, 153, 154, 155, 156, 157, 158, 159, 160, 161, 162, 163, 164, 165, 166, 167, 168, 169, 170, 171, 172, 173, 174, 175, 176, 177, 178, 179, 180, 181, 182, 183, 184, 185, 186, 187, 188, 189, 190, 191, 192, 193, 194, 195, 196, 197, 198, 199, 200, 201, 202, 203, 204, 205, 206, 207, 208, 209, 210, 211, 212] rfl (by decide +kernel)
set_option maxRecDepth 20000 in
theorem gX7_rivals_X7_turns : GoodIn wsX7_rivals (wsV RX7 638 RX7 yX7_turns wsX7_turns) := goodIn_app (goodIn_of _ (by decide +kernel)) ggX7_rivals_X7_turns
theorem dX7_rivals_0 : decode cX7_rivals 0 = .ok (.iload_n 1, 1) := by decide +kernel
theorem dX7_rivals_1 : decode cX7_rivals 1 = .ok (.iconst 0, 1) := by decide +kernel
theorem dX7_rivals_2 : decode cX7_rivals 2 = .ok (.iconst 4, 1) := by decide +kernel
theorem dX7_rivals_3 : decode cX7_rivals 3 = .ok (.invokestatic 381, 3) := by decide +kernel
theorem dX7_rivals_6 : decode cX7_rivals 6 = .ok (.ifCond .eq 19, 3) := by decide +kernel
theorem dX7_rivals_9 : decode cX7_rivals 9 = .ok (.iload_n 2, 1) := by decide +kernel
theorem dX7_rivals_10 : decode cX7_rivals 10 = .ok (.iconst (-1), 1) := by decide +kernel
theorem dX7_rivals_11 : decode cX7_rivals 11 = .ok (.if_icmp .eq 18, 3) := by decide +kernel
theorem dX7_rivals_14 : decode cX7_rivals 14 = .ok (.iload_n 2, 1) := by decide +kernel
theorem dX7_rivals_15 : decode cX7_rivals 15 = .ok (.iconst 0, 1) := by decide +kernel
theorem dX7_rivals_16 : decode cX7_rivals 16 = .ok (.iload_n 1, 1) := by decide +kernel
theorem dX7_rivals_17 : decode cX7_rivals 17 = .ok (.iconst 1, 1) := by decide +kernel
theorem dX7_rivals_18 : decode cX7_rivals 18 = .ok (.isub, 1) := by decide +kernel
theorem dX7_rivals_19 : decode cX7_rivals 19 = .ok (.invokestatic 381, 3) := by decide +kernel
theorem dX7_rivals_22 : decode cX7_rivals 22 = .ok (.ifCond .ne 7, 3) := by decide +kernel
theorem dX7_rivals_25 : decode cX7_rivals 25 = .ok (.ldc_w 641, 3) := by decide +kernel
theorem dX7_rivals_28 : decode cX7_rivals 28 = .ok (.ireturn, 1) := by decide +kernel
theorem dX7_rivals_29 : decode cX7_rivals 29 = .ok (.aload_n 0, 1) := by decide +kernel
theorem dX7_rivals_30 : decode cX7_rivals 30 = .ok (.getfield 267, 3) := by decide +kernel
theorem dX7_rivals_33 : decode cX7_rivals 33 = .ok (.iconst 0, 1) := by decide +kernel
theorem dX7_rivals_34 : decode cX7_rivals 34 = .ok (.aload_n 0, 1) := by decide +kernel
theorem dX7_rivals_35 : decode cX7_rivals 35 = .ok (.getfield 81, 3) := by decide +kernel
theorem dX7_rivals_38 : decode cX7_rivals 38 = .ok (.aload_n 0, 1) := by decide +kernel
theorem dX7_rivals_39 : decode cX7_rivals 39 = .ok (.getfield 51, 3) := by decide +kernel
theorem dX7_rivals_42 : decode cX7_rivals 42 = .ok (.iaload, 1) := by decide +kernel
theorem dX7_rivals_43 : decode cX7_rivals 43 = .ok (.iastore, 1) := by decide +kernel
theorem dX7_rivals_44 : decode cX7_rivals 44 = .ok (.aload_n 0, 1) := by decide +kernel
theorem dX7_rivals_45 : decode cX7_rivals 45 = .ok (.getfield 267, 3) := by decide +kernel
theorem dX7_rivals_48 : decode cX7_rivals 48 = .ok (.iconst 1, 1) := by decide +kernel
theorem dX7_rivals_49 : decode cX7_rivals 49 = .ok (.aload_n 0, 1) := by decide +kernel
theorem dX7_rivals_50 : decode cX7_rivals 50 = .ok (.getfield 81, 3) := by decide +kernel
theorem dX7_rivals_53 : decode cX7_rivals 53 = .ok (.aload_n 0, 1) := by decide +kernel
theorem dX7_rivals_54 : decode cX7_rivals 54 = .ok (.getfield 51, 3) := by decide +kernel
theorem dX7_rivals_57 : decode cX7_rivals 57 = .ok (.iaload, 1) := by decide +kernel
theorem dX7_rivals_58 : decode cX7_rivals 58 = .ok (.iastore, 1) := by decide +kernel
theorem dX7_rivals_59 : decode cX7_rivals 59 = .ok (.aload_n 0, 1) := by decide +kernel
theorem dX7_rivals_60 : decode cX7_rivals 60 = .ok (.getfield 270, 3) := by decide +kernel
theorem dX7_rivals_63 : decode cX7_rivals 63 = .ok (.iconst 0, 1) := by decide +kernel
theorem dX7_rivals_64 : decode cX7_rivals 64 = .ok (.iconst 0, 1) := by decide +kernel
theorem dX7_rivals_65 : decode cX7_rivals 65 = .ok (.iastore, 1) := by decide +kernel
theorem dX7_rivals_66 : decode cX7_rivals 66 = .ok (.aload_n 0, 1) := by decide +kernel
theorem dX7_rivals_67 : decode cX7_rivals 67 = .ok (.getfield 282, 3) := by decide +kernel
theorem dX7_rivals_70 : decode cX7_rivals 70 = .ok (.iconst 0, 1) := by decide +kernel
theorem dX7_rivals_71 : decode cX7_rivals 71 = .ok (.iconst 0, 1) := by decide +kernel
theorem dX7_rivals_72 : decode cX7_rivals 72 = .ok (.iastore, 1) := by decide +kernel
theorem dX7_rivals_73 : decode cX7_rivals 73 = .ok (.iload_n 1, 1) := by decide +kernel
theorem dX7_rivals_74 : decode cX7_rivals 74 = .ok (.ifCond .ne 5, 3) := by decide +kernel
theorem dX7_rivals_77 : decode cX7_rivals 77 = .ok (.iconst 0, 1) := by decide +kernel
theorem dX7_rivals_78 : decode cX7_rivals 78 = .ok (.ireturn, 1) := by decide +kernel
theorem dX7_rivals_79 : decode cX7_rivals 79 = .ok (.iconst 0, 1) := by decide +kernel
theorem dX7_rivals_80 : decode cX7_rivals 80 = .ok (.istore_n 3, 1) := by decide +kernel
theorem dX7_rivals_81 : decode cX7_rivals 81 = .ok (.bipush 20, 2) := by decide +kernel
theorem dX7_rivals_83 : decode cX7_rivals 83 = .ok (.istore 4, 2) := by decide +kernel
theorem dX7_rivals_85 : decode cX7_rivals 85 = .ok (.iconst 0, 1) := by decide +kernel
theorem dX7_rivals_86 : decode cX7_rivals 86 = .ok (.istore 5, 2) := by decide +kernel
theorem dX7_rivals_88 : decode cX7_rivals 88 = .ok (.iload 5, 2) := by decide +kernel
theorem dX7_rivals_90 : decode cX7_rivals 90 = .ok (.iload_n 2, 1) := by decide +kernel
theorem dX7_rivals_91 : decode cX7_rivals 91 = .ok (.iconst (-1), 1) := by decide +kernel
theorem dX7_rivals_92 : decode cX7_rivals 92 = .ok (.if_icmp .ne 7, 3) := by decide +kernel
theorem dX7_rivals_95 : decode cX7_rivals 95 = .ok (.iconst 0, 1) := by decide +kernel
theorem dX7_rivals_96 : decode cX7_rivals 96 = .ok (.goto 4, 3) := by decide +kernel
theorem dX7_rivals_99 : decode cX7_rivals 99 = .ok (.iload_n 2, 1) := by decide +kernel
theorem dX7_rivals_100 : decode cX7_rivals 100 = .ok (.if_icmp .gt 77, 3) := by decide +kernel
theorem dX7_rivals_103 : decode cX7_rivals 103 = .ok (.bipush 20, 2) := by decide +kernel
theorem dX7_rivals_105 : decode cX7_rivals 105 = .ok (.istore 4, 2) := by decide +kernel
theorem dX7_rivals_107 : decode cX7_rivals 107 = .ok (.iload_n 3, 1) := by decide +kernel
theorem dX7_rivals_108 : decode cX7_rivals 108 = .ok (.ifCond .eq 6, 3) := by decide +kernel
theorem dX7_rivals_111 : decode cX7_rivals 111 = .ok (.goto 60, 3) := by decide +kernel
theorem dX7_rivals_114 : decode cX7_rivals 114 = .ok (.aload_n 0, 1) := by decide +kernel
theorem dX7_rivals_115 : decode cX7_rivals 115 = .ok (.iload 5, 2) := by decide +kernel
theorem dX7_rivals_117 : decode cX7_rivals 117 = .ok (.iload_n 1, 1) := by decide +kernel
theorem dX7_rivals_118 : decode cX7_rivals 118 = .ok (.invokevirtual 642, 3) := by decide +kernel
theorem dX7_rivals_121 : decode cX7_rivals 121 = .ok (.aload_n 0, 1) := by decide +kernel
theorem dX7_rivals_122 : decode cX7_rivals 122 = .ok (.getfield 279, 3) := by decide +kernel
theorem dX7_rivals_125 : decode cX7_rivals 125 = .ok (.iload 5, 2) := by decide +kernel
theorem dX7_rivals_127 : decode cX7_rivals 127 = .ok (.iaload, 1) := by decide +kernel
theorem dX7_rivals_128 : decode cX7_rivals 128 = .ok (.istore 6, 2) := by decide +kernel
theorem dX7_rivals_130 : decode cX7_rivals 130 = .ok (.iload 6, 2) := by decide +kernel
theorem dX7_rivals_132 : decode cX7_rivals 132 = .ok (.aload_n 0, 1) := by decide +kernel
theorem dX7_rivals_133 : decode cX7_rivals 133 = .ok (.getfield 66, 3) := by decide +kernel
theorem dX7_rivals_136 : decode cX7_rivals 136 = .ok (.aload_n 0, 1) := by decide +kernel
theorem dX7_rivals_137 : decode cX7_rivals 137 = .ok (.getfield 51, 3) := by decide +kernel
theorem dX7_rivals_140 : decode cX7_rivals 140 = .ok (.iaload, 1) := by decide +kernel
theorem dX7_rivals_141 : decode cX7_rivals 141 = .ok (.if_icmp .ne 8, 3) := by decide +kernel
theorem dX7_rivals_144 : decode cX7_rivals 144 = .ok (.bipush 20, 2) := by decide +kernel
theorem dX7_rivals_146 : decode cX7_rivals 146 = .ok (.goto 5, 3) := by decide +kernel
theorem dX7_rivals_149 : decode cX7_rivals 149 = .ok (.iload 6, 2) := by decide +kernel
theorem dX7_rivals_151 : decode cX7_rivals 151 = .ok (.istore 4, 2) := by decide +kernel
theorem dX7_rivals_153 : decode cX7_rivals 153 = .ok (.iload_n 2, 1) := by decide +kernel
theorem dX7_rivals_154 : decode cX7_rivals 154 = .ok (.iconst (-1), 1) := by decide +kernel
theorem dX7_rivals_155 : decode cX7_rivals 155 = .ok (.if_icmp .eq 16, 3) := by decide +kernel
theorem dX7_rivals_158 : decode cX7_rivals 158 = .ok (.aload_n 0, 1) := by decide +kernel
theorem dX7_rivals_159 : decode cX7_rivals 159 = .ok (.iload 5, 2) := by decide +kernel
theorem dX7_rivals_161 : decode cX7_rivals 161 = .ok (.iload 5, 2) := by decide +kernel
theorem dX7_rivals_163 : decode cX7_rivals 163 = .ok (.iconst 2, 1) := by decide +kernel
theorem dX7_rivals_164 : decode cX7_rivals 164 = .ok (.irem, 1) := by decide +kernel
theorem dX7_rivals_165 : decode cX7_rivals 165 = .ok (.iload 6, 2) := by decide +kernel
theorem dX7_rivals_167 : decode cX7_rivals 167 = .ok (.invokevirtual 638, 3) := by decide +kernel
theorem dX7_rivals_170 : decode cX7_rivals 170 = .ok (.istore_n 3, 1) := by decide +kernel
theorem dX7_rivals_171 : decode cX7_rivals 171 = .ok (.iinc 5 1, 3) := by decide +kernel
theorem dX7_rivals_174 : decode cX7_rivals 174 = .ok (.goto (-86), 3) := by decide +kernel
theorem dX7_rivals_177 : decode cX7_rivals 177 = .ok (.iload_n 2, 1) := by decide +kernel
theorem dX7_rivals_178 : decode cX7_rivals 178 = .ok (.iconst (-1), 1) := by decide +kernel
theorem dX7_rivals_179 : decode cX7_rivals 179 = .ok (.if_icmp .ne 12, 3) := by decide +kernel
theorem dX7_rivals_182 : decode cX7_rivals 182 = .ok (.aload_n 0, 1) := by decide +kernel
theorem dX7_rivals_183 : decode cX7_rivals 183 = .ok (.getfield 276, 3) := by decide +kernel
theorem dX7_rivals_186 : decode cX7_rivals 186 = .ok (.iconst 0, 1) := by decide +kernel
theorem dX7_rivals_187 : decode cX7_rivals 187 = .ok (.iaload, 1) := by decide +kernel
theorem dX7_rivals_188 : decode cX7_rivals 188 = .ok (.goto 5, 3) := by decide +kernel
theorem dX7_rivals_191 : decode cX7_rivals 191 = .ok (.iload 4, 2) := by decide +kernel
theorem dX7_rivals_193 : decode cX7_rivals 193 = .ok (.ireturn, 1) := by decide +kernel
set_option maxRecDepth 20000 in
theorem ggX7_before_X7_is : GoodIn wsX7_before wsX7_is := goodIn_r _ [5] rfl (by decide +kernel)
set_option maxRecDepth 20000 in
theorem gX7_before_X7_is : GoodIn wsX7_before (va_wsS RX7 381 yX7_is wsX7_is) := goodIn_app (goodIn_of _ (by decide +kernel)) ggX7_before_X7_is
set_option maxRecDepth 20000 in
theorem ggX7_before_X7_briefOnes : GoodIn wsX7_before wsX7_briefOnes := goodIn_r _ [9, 10, 11, 12, 16, 17, 18, 19, 20, 21, 22, 23, 24, 25, 26, 27, 28, 29, 30, 31, 32, 33, 34, 35, 36, 37, 38, 39, 40, 41, 42, 43, 44, 45, 46, 47, 48, 49, 50, 51, 52, 53, 54, 55, 56, 57, 58, 59, 60, 61, 62, 63, 64, 65, 66, 67, 68, 69, 70, 71, 72, 73, 74, 75, 76, 77, 78, 79, 80, 81, 82, 83, 84, 85, 86, 87, 88, 89, 90, 91, 92, 93, 94, 95, 96, 97, 98, 99, 100, 101, 102, 103, 104, 105, 106, 107] rfl (by decide +kernel)
set_option maxRecDepth 20000 in
theorem gX7_before_X7_briefOnes : GoodIn wsX7_before (wsV RX7 572 RX7 yX7_briefOnes wsX7_briefOnes) := goodIn_app (goodIn_of _ (by decide +kernel)) ggX7_before_X7_briefOnes
set_option maxRecDepth 20000 in
theorem ggX7_before_X7_bits : GoodIn wsX7_before wsX7_bits := goodIn_r _ [15] rfl (by decide +kernel)
set_option maxRecDepth 20000 in
theorem gX7_before_X7_bits : GoodIn wsX7_before (va_wsS RX7 493 yX7_bits wsX7_bits) := goodIn_app (goodIn_of _ (by decide +kernel)) ggX7_before_X7_bits
theorem dX7_before_0 : decode cX7_before 0 = .ok (.iload_n 1, 1) := by decide +kernel
theorem dX7_before_1 : decode cX7_before 1 = .ok (.iconst 0, 1) := by decide +kernel
theorem dX7_before_2 : decode cX7_before 2 = .ok (.iconst 2, 1) := by decide +kernel
theorem dX7_before_3 : decode cX7_before 3 = .ok (.invokestatic 381, 3) := by decide +kernel
theorem dX7_before_6 : decode cX7_before 6 = .ok (.ifCond .ne 5, 3) := by decide +kernel
theorem dX7_before_9 : decode cX7_before 9 = .ok (.iconst (-1), 1) := by decide +kernel
theorem dX7_before_10 : decode cX7_before 10 = .ok (.ireturn, 1) := by decide +kernel
theorem dX7_before_11 : decode cX7_before 11 = .ok (.aload_n 0, 1) := by decide +kernel
theorem dX7_before_12 : decode cX7_before 12 = .ok (.invokevirtual 572, 3) := by decide +kernel
theorem dX7_before_15 : decode cX7_before 15 = .ok (.istore_n 2, 1) := by decide +kernel
theorem dX7_before_16 : decode cX7_before 16 = .ok (.aload_n 0, 1) := by decide +kernel
theorem dX7_before_17 : decode cX7_before 17 = .ok (.getfield 162, 3) := by decide +kernel
theorem dX7_before_20 : decode cX7_before 20 = .ok (.iconst 0, 1) := by decide +kernel
theorem dX7_before_21 : decode cX7_before 21 = .ok (.iaload, 1) := by decide +kernel
theorem dX7_before_22 : decode cX7_before 22 = .ok (.iload_n 2, 1) := by decide +kernel
theorem dX7_before_23 : decode cX7_before 23 = .ok (.iand, 1) := by decide +kernel
theorem dX7_before_24 : decode cX7_before 24 = .ok (.ifCond .eq 13, 3) := by decide +kernel
theorem dX7_before_27 : decode cX7_before 27 = .ok (.iload_n 1, 1) := by decide +kernel
theorem dX7_before_28 : decode cX7_before 28 = .ok (.ifCond .ne 7, 3) := by decide +kernel
theorem dX7_before_31 : decode cX7_before 31 = .ok (.iconst 0, 1) := by decide +kernel
theorem dX7_before_32 : decode cX7_before 32 = .ok (.goto 4, 3) := by decide +kernel
theorem dX7_before_35 : decode cX7_before 35 = .ok (.iconst (-1), 1) := by decide +kernel
theorem dX7_before_36 : decode cX7_before 36 = .ok (.ireturn, 1) := by decide +kernel
theorem dX7_before_37 : decode cX7_before 37 = .ok (.iload_n 1, 1) := by decide +kernel
theorem dX7_before_38 : decode cX7_before 38 = .ok (.ifCond .ne 12, 3) := by decide +kernel
theorem dX7_before_41 : decode cX7_before 41 = .ok (.iconst 1, 1) := by decide +kernel
theorem dX7_before_42 : decode cX7_before 42 = .ok (.iload_n 2, 1) := by decide +kernel
theorem dX7_before_43 : decode cX7_before 43 = .ok (.invokestatic 493, 3) := by decide +kernel
theorem dX7_before_46 : decode cX7_before 46 = .ok (.ishl, 1) := by decide +kernel
theorem dX7_before_47 : decode cX7_before 47 = .ok (.goto 25, 3) := by decide +kernel
theorem dX7_before_50 : decode cX7_before 50 = .ok (.iload_n 1, 1) := by decide +kernel
theorem dX7_before_51 : decode cX7_before 51 = .ok (.iconst 1, 1) := by decide +kernel
theorem dX7_before_52 : decode cX7_before 52 = .ok (.if_icmp .ne 12, 3) := by decide +kernel
theorem dX7_before_55 : decode cX7_before 55 = .ok (.aload_n 0, 1) := by decide +kernel
theorem dX7_before_56 : decode cX7_before 56 = .ok (.getfield 162, 3) := by decide +kernel
theorem dX7_before_59 : decode cX7_before 59 = .ok (.iconst 0, 1) := by decide +kernel
theorem dX7_before_60 : decode cX7_before 60 = .ok (.iaload, 1) := by decide +kernel
theorem dX7_before_61 : decode cX7_before 61 = .ok (.goto 11, 3) := by decide +kernel
theorem dX7_before_64 : decode cX7_before 64 = .ok (.aload_n 0, 1) := by decide +kernel
theorem dX7_before_65 : decode cX7_before 65 = .ok (.getfield 162, 3) := by decide +kernel
theorem dX7_before_68 : decode cX7_before 68 = .ok (.iconst 0, 1) := by decide +kernel
theorem dX7_before_69 : decode cX7_before 69 = .ok (.iaload, 1) := by decide +kernel
theorem dX7_before_70 : decode cX7_before 70 = .ok (.iload_n 2, 1) := by decide +kernel
theorem dX7_before_71 : decode cX7_before 71 = .ok (.ior, 1) := by decide +kernel
theorem dX7_before_72 : decode cX7_before 72 = .ok (.ireturn, 1) := by decide +kernel
theorem dX7_writes_0 : decode cX7_writes 0 = .ok (.aload_n 0, 1) := by decide +kernel
theorem dX7_writes_1 : decode cX7_writes 1 = .ok (.getfield 285, 3) := by decide +kernel
theorem dX7_writes_4 : decode cX7_writes 4 = .ok (.aload_n 0, 1) := by decide +kernel
theorem dX7_writes_5 : decode cX7_writes 5 = .ok (.getfield 288, 3) := by decide +kernel
theorem dX7_writes_8 : decode cX7_writes 8 = .ok (.iload_n 1, 1) := by decide +kernel
theorem dX7_writes_9 : decode cX7_writes 9 = .ok (.sipush 255, 3) := by decide +kernel
theorem dX7_writes_12 : decode cX7_writes 12 = .ok (.iand, 1) := by decide +kernel
theorem dX7_writes_13 : decode cX7_writes 13 = .ok (.iastore, 1) := by decide +kernel
theorem dX7_writes_14 : decode cX7_writes 14 = .ok (.aload_n 0, 1) := by decide +kernel
theorem dX7_writes_15 : decode cX7_writes 15 = .ok (.dup, 1) := by decide +kernel
theorem dX7_writes_16 : decode cX7_writes 16 = .ok (.getfield 288, 3) := by decide +kernel
theorem dX7_writes_19 : decode cX7_writes 19 = .ok (.iconst 1, 1) := by decide +kernel
theorem dX7_writes_20 : decode cX7_writes 20 = .ok (.iadd, 1) := by decide +kernel
theorem dX7_writes_21 : decode cX7_writes 21 = .ok (.putfield 288, 3) := by decide +kernel
theorem dX7_writes_24 : decode cX7_writes 24 = .ok (.return_, 1) := by decide +kernel
set_option maxRecDepth 20000 in
theorem ggX7_image_X7_writes : GoodIn wsX7_image wsX7_writes := goodIn_r _ [11, 6, 1, 12, 13, 14, 15, 16, 17, 18, 19, 20, 21, 22, 23, 24, 25, 26, 27, 28, 29, 30, 31, 32, 33, 34, 35, 36, 37, 38, 39, 40, 41, 42, 43, 44, 45, 46, 47, 48, 49, 50, 51, 52, 53, 54, 55, 56, 57, 58, 59, 60, 61, 62, 63, 64, 65, 66, 67, 68, 69, 70, 71, 72, 73, 74, 75, 76, 77, 78, 79, 80, 81, 82, 83, 84, 85, 86, 87, 88, 89, 90, 91, 92, 93, 94, 95, 96, 97, 98, 99, 100, 101, 102, 103] rfl (by decide +kernel)
set_option maxRecDepth 20000 in
theorem gX7_image_X7_writes : GoodIn wsX7_image (wsV RX7 645 RX7 yX7_writes wsX7_writes) := goodIn_app (goodIn_of _ (by decide +kernel)) ggX7_image_X7_writes
theorem dX7_image_0 : decode cX7_image 0 = .ok (.aload_n 0, 1) := by decide +kernel
theorem dX7_image_1 : decode cX7_image 1 = .ok (.iconst 0, 1) := by decide +kernel
theorem dX7_image_2 : decode cX7_image 2 = .ok (.putfield 288, 3) := by decide +kernel
theorem dX7_image_5 : decode cX7_image 5 = .ok (.aload_n 0, 1) := by decide +kernel
theorem dX7_image_6 : decode cX7_image 6 = .ok (.aload_n 0, 1) := by decide +kernel
theorem dX7_image_7 : decode cX7_image 7 = .ok (.getfield 171, 3) := by decide +kernel
theorem dX7_image_10 : decode cX7_image 10 = .ok (.iconst 0, 1) := by decide +kernel
theorem dX7_image_11 : decode cX7_image 11 = .ok (.iaload, 1) := by decide +kernel
theorem dX7_image_12 : decode cX7_image 12 = .ok (.bipush 8, 2) := by decide +kernel
theorem dX7_image_14 : decode cX7_image 14 = .ok (.ishr, 1) := by decide +kernel
theorem dX7_image_15 : decode cX7_image 15 = .ok (.invokevirtual 645, 3) := by decide +kernel
theorem dX7_image_18 : decode cX7_image 18 = .ok (.aload_n 0, 1) := by decide +kernel
theorem dX7_image_19 : decode cX7_image 19 = .ok (.aload_n 0, 1) := by decide +kernel
theorem dX7_image_20 : decode cX7_image 20 = .ok (.getfield 171, 3) := by decide +kernel
theorem dX7_image_23 : decode cX7_image 23 = .ok (.iconst 0, 1) := by decide +kernel
theorem dX7_image_24 : decode cX7_image 24 = .ok (.iaload, 1) := by decide +kernel
theorem dX7_image_25 : decode cX7_image 25 = .ok (.invokevirtual 645, 3) := by decide +kernel
theorem dX7_image_28 : decode cX7_image 28 = .ok (.aload_n 0, 1) := by decide +kernel
theorem dX7_image_29 : decode cX7_image 29 = .ok (.aload_n 0, 1) := by decide +kernel
theorem dX7_image_30 : decode cX7_image 30 = .ok (.getfield 168, 3) := by decide +kernel
theorem dX7_image_33 : decode cX7_image 33 = .ok (.iconst 0, 1) := by decide +kernel
theorem dX7_image_34 : decode cX7_image 34 = .ok (.iaload, 1) := by decide +kernel
theorem dX7_image_35 : decode cX7_image 35 = .ok (.bipush 8, 2) := by decide +kernel
theorem dX7_image_37 : decode cX7_image 37 = .ok (.ishr, 1) := by decide +kernel
theorem dX7_image_38 : decode cX7_image 38 = .ok (.invokevirtual 645, 3) := by decide +kernel
theorem dX7_image_41 : decode cX7_image 41 = .ok (.aload_n 0, 1) := by decide +kernel
theorem dX7_image_42 : decode cX7_image 42 = .ok (.aload_n 0, 1) := by decide +kernel
theorem dX7_image_43 : decode cX7_image 43 = .ok (.getfield 168, 3) := by decide +kernel
theorem dX7_image_46 : decode cX7_image 46 = .ok (.iconst 0, 1) := by decide +kernel
theorem dX7_image_47 : decode cX7_image 47 = .ok (.iaload, 1) := by decide +kernel
theorem dX7_image_48 : decode cX7_image 48 = .ok (.invokevirtual 645, 3) := by decide +kernel
theorem dX7_image_51 : decode cX7_image 51 = .ok (.aload_n 0, 1) := by decide +kernel
theorem dX7_image_52 : decode cX7_image 52 = .ok (.aload_n 0, 1) := by decide +kernel
theorem dX7_image_53 : decode cX7_image 53 = .ok (.getfield 165, 3) := by decide +kernel
theorem dX7_image_56 : decode cX7_image 56 = .ok (.iconst 0, 1) := by decide +kernel
theorem dX7_image_57 : decode cX7_image 57 = .ok (.iaload, 1) := by decide +kernel
theorem dX7_image_58 : decode cX7_image 58 = .ok (.bipush 8, 2) := by decide +kernel
theorem dX7_image_60 : decode cX7_image 60 = .ok (.ishr, 1) := by decide +kernel
theorem dX7_image_61 : decode cX7_image 61 = .ok (.invokevirtual 645, 3) := by decide +kernel
theorem dX7_image_64 : decode cX7_image 64 = .ok (.aload_n 0, 1) := by decide +kernel
theorem dX7_image_65 : decode cX7_image 65 = .ok (.aload_n 0, 1) := by decide +kernel
theorem dX7_image_66 : decode cX7_image 66 = .ok (.getfield 165, 3) := by decide +kernel
theorem dX7_image_69 : decode cX7_image 69 = .ok (.iconst 0, 1) := by decide +kernel
theorem dX7_image_70 : decode cX7_image 70 = .ok (.iaload, 1) := by decide +kernel
theorem dX7_image_71 : decode cX7_image 71 = .ok (.invokevirtual 645, 3) := by decide +kernel
theorem dX7_image_74 : decode cX7_image 74 = .ok (.aload_n 0, 1) := by decide +kernel
theorem dX7_image_75 : decode cX7_image 75 = .ok (.aload_n 0, 1) := by decide +kernel
theorem dX7_image_76 : decode cX7_image 76 = .ok (.getfield 162, 3) := by decide +kernel
theorem dX7_image_79 : decode cX7_image 79 = .ok (.iconst 0, 1) := by decide +kernel
theorem dX7_image_80 : decode cX7_image 80 = .ok (.iaload, 1) := by decide +kernel
theorem dX7_image_81 : decode cX7_image 81 = .ok (.bipush 8, 2) := by decide +kernel
theorem dX7_image_83 : decode cX7_image 83 = .ok (.ishr, 1) := by decide +kernel
theorem dX7_image_84 : decode cX7_image 84 = .ok (.invokevirtual 645, 3) := by decide +kernel
theorem dX7_image_87 : decode cX7_image 87 = .ok (.aload_n 0, 1) := by decide +kernel
theorem dX7_image_88 : decode cX7_image 88 = .ok (.aload_n 0, 1) := by decide +kernel
theorem dX7_image_89 : decode cX7_image 89 = .ok (.getfield 162, 3) := by decide +kernel
theorem dX7_image_92 : decode cX7_image 92 = .ok (.iconst 0, 1) := by decide +kernel
theorem dX7_image_93 : decode cX7_image 93 = .ok (.iaload, 1) := by decide +kernel
theorem dX7_image_94 : decode cX7_image 94 = .ok (.invokevirtual 645, 3) := by decide +kernel
theorem dX7_image_97 : decode cX7_image 97 = .ok (.bipush 97, 2) := by decide +kernel
theorem dX7_image_99 : decode cX7_image 99 = .ok (.istore_n 1, 1) := by decide +kernel
theorem dX7_image_100 : decode cX7_image 100 = .ok (.iconst 0, 1) := by decide +kernel
theorem dX7_image_101 : decode cX7_image 101 = .ok (.istore_n 2, 1) := by decide +kernel
theorem dX7_image_102 : decode cX7_image 102 = .ok (.iload_n 2, 1) := by decide +kernel
theorem dX7_image_103 : decode cX7_image 103 = .ok (.aload_n 0, 1) := by decide +kernel
theorem dX7_image_104 : decode cX7_image 104 = .ok (.getfield 288, 3) := by decide +kernel
theorem dX7_image_107 : decode cX7_image 107 = .ok (.if_icmp .ge 24, 3) := by decide +kernel
theorem dX7_image_110 : decode cX7_image 110 = .ok (.iconst 5, 1) := by decide +kernel
theorem dX7_image_111 : decode cX7_image 111 = .ok (.iload_n 1, 1) := by decide +kernel
theorem dX7_image_112 : decode cX7_image 112 = .ok (.imul, 1) := by decide +kernel
theorem dX7_image_113 : decode cX7_image 113 = .ok (.aload_n 0, 1) := by decide +kernel
theorem dX7_image_114 : decode cX7_image 114 = .ok (.getfield 285, 3) := by decide +kernel
theorem dX7_image_117 : decode cX7_image 117 = .ok (.iload_n 2, 1) := by decide +kernel
theorem dX7_image_118 : decode cX7_image 118 = .ok (.iaload, 1) := by decide +kernel
theorem dX7_image_119 : decode cX7_image 119 = .ok (.iadd, 1) := by decide +kernel
theorem dX7_image_120 : decode cX7_image 120 = .ok (.sipush 251, 3) := by decide +kernel
theorem dX7_image_123 : decode cX7_image 123 = .ok (.irem, 1) := by decide +kernel
theorem dX7_image_124 : decode cX7_image 124 = .ok (.istore_n 1, 1) := by decide +kernel
theorem dX7_image_125 : decode cX7_image 125 = .ok (.iinc 2 1, 3) := by decide +kernel
theorem dX7_image_128 : decode cX7_image 128 = .ok (.goto (-26), 3) := by decide +kernel
theorem dX7_image_131 : decode cX7_image 131 = .ok (.aload_n 0, 1) := by decide +kernel
theorem dX7_image_132 : decode cX7_image 132 = .ok (.iload_n 1, 1) := by decide +kernel
theorem dX7_image_133 : decode cX7_image 133 = .ok (.invokevirtual 645, 3) := by decide +kernel
theorem dX7_image_136 : decode cX7_image 136 = .ok (.aload_n 0, 1) := by decide +kernel
theorem dX7_image_137 : decode cX7_image 137 = .ok (.getfield 288, 3) := by decide +kernel
theorem dX7_image_140 : decode cX7_image 140 = .ok (.ireturn, 1) := by decide +kernel
set_option maxRecDepth 20000 in
theorem ggX7_octet_X7_is : GoodIn wsX7_octet wsX7_is := goodIn_r _ [6] rfl (by decide +kernel)
set_option maxRecDepth 20000 in
theorem gX7_octet_X7_is : GoodIn wsX7_octet (va_wsS RX7 381 yX7_is wsX7_is) := goodIn_app (goodIn_of _ (by decide +kernel)) ggX7_octet_X7_is
theorem dX7_octet_0 : decode cX7_octet 0 = .ok (.iload_n 1, 1) := by decide +kernel
theorem dX7_octet_1 : decode cX7_octet 1 = .ok (.iconst 0, 1) := by decide +kernel
theorem dX7_octet_2 : decode cX7_octet 2 = .ok (.aload_n 0, 1) := by decide +kernel
theorem dX7_octet_3 : decode cX7_octet 3 = .ok (.getfield 288, 3) := by decide +kernel
theorem dX7_octet_6 : decode cX7_octet 6 = .ok (.iconst 1, 1) := by decide +kernel
theorem dX7_octet_7 : decode cX7_octet 7 = .ok (.isub, 1) := by decide +kernel
theorem dX7_octet_8 : decode cX7_octet 8 = .ok (.invokestatic 381, 3) := by decide +kernel
theorem dX7_octet_11 : decode cX7_octet 11 = .ok (.ifCond .eq 12, 3) := by decide +kernel
theorem dX7_octet_14 : decode cX7_octet 14 = .ok (.aload_n 0, 1) := by decide +kernel
theorem dX7_octet_15 : decode cX7_octet 15 = .ok (.getfield 285, 3) := by decide +kernel
theorem dX7_octet_18 : decode cX7_octet 18 = .ok (.iload_n 1, 1) := by decide +kernel
theorem dX7_octet_19 : decode cX7_octet 19 = .ok (.iaload, 1) := by decide +kernel
theorem dX7_octet_20 : decode cX7_octet 20 = .ok (.goto 4, 3) := by decide +kernel
theorem dX7_octet_23 : decode cX7_octet 23 = .ok (.iconst (-1), 1) := by decide +kernel
theorem dX7_octet_24 : decode cX7_octet 24 = .ok (.ireturn, 1) := by decide +kernel
theorem dX7_twoBytes_0 : decode cX7_twoBytes 0 = .ok (.aload_n 0, 1) := by decide +kernel
theorem dX7_twoBytes_1 : decode cX7_twoBytes 1 = .ok (.getfield 7, 3) := by decide +kernel
theorem dX7_twoBytes_4 : decode cX7_twoBytes 4 = .ok (.iload_n 1, 1) := by decide +kernel
theorem dX7_twoBytes_5 : decode cX7_twoBytes 5 = .ok (.iaload, 1) := by decide +kernel
theorem dX7_twoBytes_6 : decode cX7_twoBytes 6 = .ok (.bipush 8, 2) := by decide +kernel
theorem dX7_twoBytes_8 : decode cX7_twoBytes 8 = .ok (.ishl, 1) := by decide +kernel
theorem dX7_twoBytes_9 : decode cX7_twoBytes 9 = .ok (.aload_n 0, 1) := by decide +kernel
theorem dX7_twoBytes_10 : decode cX7_twoBytes 10 = .ok (.getfield 7, 3) := by decide +kernel
theorem dX7_twoBytes_13 : decode cX7_twoBytes 13 = .ok (.iload_n 1, 1) := by decide +kernel
theorem dX7_twoBytes_14 : decode cX7_twoBytes 14 = .ok (.iconst 1, 1) := by decide +kernel
theorem dX7_twoBytes_15 : decode cX7_twoBytes 15 = .ok (.iadd, 1) := by decide +kernel
theorem dX7_twoBytes_16 : decode cX7_twoBytes 16 = .ok (.iaload, 1) := by decide +kernel
theorem dX7_twoBytes_17 : decode cX7_twoBytes 17 = .ok (.ior, 1) := by decide +kernel
theorem dX7_twoBytes_18 : decode cX7_twoBytes 18 = .ok (.ireturn, 1) := by decide +kernel
set_option maxRecDepth 20000 in
theorem ggX7_canBe_X7_twoBytes : GoodIn wsX7_canBe wsX7_twoBytes := goodIn_r _ [9, 4, 10, 11, 12, 13, 14, 15, 16, 17, 18, 19, 20, 21, 22, 23, 24, 25, 26, 27, 28, 29, 30, 31, 32, 33, 34, 35, 36, 37, 38, 39, 40, 41, 42, 43, 44, 45, 46, 47, 48, 49, 50, 51, 52, 53, 54, 55, 56, 57, 58, 59, 60, 61, 62, 63, 64, 65, 66, 67, 68, 69, 70, 71, 72, 73, 74, 75, 76, 77, 78, 79, 80, 81, 82, 83, 84, 85, 86, 87, 88, 89, 90, 91, 92, 93, 94, 95, 96, 97, 98, 99, 100, 101] rfl (by decide +kernel)
set_option maxRecDepth 20000 in
theorem gX7_canBe_X7_twoBytes : GoodIn wsX7_canBe (wsV RX7 648 RX7 yX7_twoBytes wsX7_twoBytes) := goodIn_app (goodIn_of _ (by decide +kernel)) ggX7_canBe_X7_twoBytes
theorem dX7_canBe_0 : decode cX7_canBe 0 = .ok (.iload_n 1, 1) := by decide +kernel
theorem dX7_canBe_1 : decode cX7_canBe 1 = .ok (.bipush 9, 2) := by decide +kernel
theorem dX7_canBe_3 : decode cX7_canBe 3 = .ok (.if_icmp .ne 62, 3) := by decide +kernel
theorem dX7_canBe_6 : decode cX7_canBe 6 = .ok (.aload_n 0, 1) := by decide +kernel
theorem dX7_canBe_7 : decode cX7_canBe 7 = .ok (.iconst 0, 1) := by decide +kernel
theorem dX7_canBe_8 : decode cX7_canBe 8 = .ok (.invokevirtual 648, 3) := by decide +kernel
theorem dX7_canBe_11 : decode cX7_canBe 11 = .ok (.sipush 9999, 3) := by decide +kernel
theorem dX7_canBe_14 : decode cX7_canBe 14 = .ok (.if_icmp .gt 51, 3) := by decide +kernel
theorem dX7_canBe_17 : decode cX7_canBe 17 = .ok (.aload_n 0, 1) := by decide +kernel
theorem dX7_canBe_18 : decode cX7_canBe 18 = .ok (.iconst 2, 1) := by decide +kernel
theorem dX7_canBe_19 : decode cX7_canBe 19 = .ok (.invokevirtual 648, 3) := by decide +kernel
theorem dX7_canBe_22 : decode cX7_canBe 22 = .ok (.sipush 9999, 3) := by decide +kernel
theorem dX7_canBe_25 : decode cX7_canBe 25 = .ok (.if_icmp .gt 40, 3) := by decide +kernel
theorem dX7_canBe_28 : decode cX7_canBe 28 = .ok (.aload_n 0, 1) := by decide +kernel
theorem dX7_canBe_29 : decode cX7_canBe 29 = .ok (.iconst 4, 1) := by decide +kernel
theorem dX7_canBe_30 : decode cX7_canBe 30 = .ok (.invokevirtual 648, 3) := by decide +kernel
theorem dX7_canBe_33 : decode cX7_canBe 33 = .ok (.aload_n 0, 1) := by decide +kernel
theorem dX7_canBe_34 : decode cX7_canBe 34 = .ok (.getfield 102, 3) := by decide +kernel
theorem dX7_canBe_37 : decode cX7_canBe 37 = .ok (.aload_n 0, 1) := by decide +kernel
theorem dX7_canBe_38 : decode cX7_canBe 38 = .ok (.getfield 51, 3) := by decide +kernel
theorem dX7_canBe_41 : decode cX7_canBe 41 = .ok (.iaload, 1) := by decide +kernel
theorem dX7_canBe_42 : decode cX7_canBe 42 = .ok (.if_icmp .gt 23, 3) := by decide +kernel
theorem dX7_canBe_45 : decode cX7_canBe 45 = .ok (.aload_n 0, 1) := by decide +kernel
theorem dX7_canBe_46 : decode cX7_canBe 46 = .ok (.bipush 6, 2) := by decide +kernel
theorem dX7_canBe_48 : decode cX7_canBe 48 = .ok (.invokevirtual 648, 3) := by decide +kernel
theorem dX7_canBe_51 : decode cX7_canBe 51 = .ok (.iconst 1, 1) := by decide +kernel
theorem dX7_canBe_52 : decode cX7_canBe 52 = .ok (.aload_n 0, 1) := by decide +kernel
theorem dX7_canBe_53 : decode cX7_canBe 53 = .ok (.getfield 54, 3) := by decide +kernel
theorem dX7_canBe_56 : decode cX7_canBe 56 = .ok (.aload_n 0, 1) := by decide +kernel
theorem dX7_canBe_57 : decode cX7_canBe 57 = .ok (.getfield 51, 3) := by decide +kernel
theorem dX7_canBe_60 : decode cX7_canBe 60 = .ok (.iaload, 1) := by decide +kernel
theorem dX7_canBe_61 : decode cX7_canBe 61 = .ok (.ishl, 1) := by decide +kernel
theorem dX7_canBe_62 : decode cX7_canBe 62 = .ok (.if_icmp .lt 5, 3) := by decide +kernel
theorem dX7_canBe_65 : decode cX7_canBe 65 = .ok (.iconst 0, 1) := by decide +kernel
theorem dX7_canBe_66 : decode cX7_canBe 66 = .ok (.ireturn, 1) := by decide +kernel
theorem dX7_canBe_67 : decode cX7_canBe 67 = .ok (.bipush 97, 2) := by decide +kernel
theorem dX7_canBe_69 : decode cX7_canBe 69 = .ok (.istore_n 2, 1) := by decide +kernel
theorem dX7_canBe_70 : decode cX7_canBe 70 = .ok (.iconst 0, 1) := by decide +kernel
theorem dX7_canBe_71 : decode cX7_canBe 71 = .ok (.istore_n 3, 1) := by decide +kernel
theorem dX7_canBe_72 : decode cX7_canBe 72 = .ok (.iload_n 3, 1) := by decide +kernel
theorem dX7_canBe_73 : decode cX7_canBe 73 = .ok (.iload_n 1, 1) := by decide +kernel
theorem dX7_canBe_74 : decode cX7_canBe 74 = .ok (.iconst 1, 1) := by decide +kernel
theorem dX7_canBe_75 : decode cX7_canBe 75 = .ok (.isub, 1) := by decide +kernel
theorem dX7_canBe_76 : decode cX7_canBe 76 = .ok (.if_icmp .ge 24, 3) := by decide +kernel
theorem dX7_canBe_79 : decode cX7_canBe 79 = .ok (.iconst 5, 1) := by decide +kernel
theorem dX7_canBe_80 : decode cX7_canBe 80 = .ok (.iload_n 2, 1) := by decide +kernel
theorem dX7_canBe_81 : decode cX7_canBe 81 = .ok (.imul, 1) := by decide +kernel
theorem dX7_canBe_82 : decode cX7_canBe 82 = .ok (.aload_n 0, 1) := by decide +kernel
theorem dX7_canBe_83 : decode cX7_canBe 83 = .ok (.getfield 7, 3) := by decide +kernel
theorem dX7_canBe_86 : decode cX7_canBe 86 = .ok (.iload_n 3, 1) := by decide +kernel
theorem dX7_canBe_87 : decode cX7_canBe 87 = .ok (.iaload, 1) := by decide +kernel
theorem dX7_canBe_88 : decode cX7_canBe 88 = .ok (.iadd, 1) := by decide +kernel
theorem dX7_canBe_89 : decode cX7_canBe 89 = .ok (.sipush 251, 3) := by decide +kernel
theorem dX7_canBe_92 : decode cX7_canBe 92 = .ok (.irem, 1) := by decide +kernel
theorem dX7_canBe_93 : decode cX7_canBe 93 = .ok (.istore_n 2, 1) := by decide +kernel
theorem dX7_canBe_94 : decode cX7_canBe 94 = .ok (.iinc 3 1, 3) := by decide +kernel
theorem dX7_canBe_97 : decode cX7_canBe 97 = .ok (.goto (-25), 3) := by decide +kernel
theorem dX7_canBe_100 : decode cX7_canBe 100 = .ok (.aload_n 0, 1) := by decide +kernel
theorem dX7_canBe_101 : decode cX7_canBe 101 = .ok (.getfield 7, 3) := by decide +kernel
theorem dX7_canBe_104 : decode cX7_canBe 104 = .ok (.iload_n 1, 1) := by decide +kernel
theorem dX7_canBe_105 : decode cX7_canBe 105 = .ok (.iconst 1, 1) := by decide +kernel
theorem dX7_canBe_106 : decode cX7_canBe 106 = .ok (.isub, 1) := by decide +kernel
theorem dX7_canBe_107 : decode cX7_canBe 107 = .ok (.iaload, 1) := by decide +kernel
theorem dX7_canBe_108 : decode cX7_canBe 108 = .ok (.iload_n 2, 1) := by decide +kernel
theorem dX7_canBe_109 : decode cX7_canBe 109 = .ok (.if_icmp .ne 7, 3) := by decide +kernel
theorem dX7_canBe_112 : decode cX7_canBe 112 = .ok (.iconst 1, 1) := by decide +kernel
theorem dX7_canBe_113 : decode cX7_canBe 113 = .ok (.goto 4, 3) := by decide +kernel
theorem dX7_canBe_116 : decode cX7_canBe 116 = .ok (.iconst 0, 1) := by decide +kernel
theorem dX7_canBe_117 : decode cX7_canBe 117 = .ok (.ireturn, 1) := by decide +kernel
set_option maxRecDepth 20000 in
theorem ggX7_on_X7_canBe : GoodIn wsX7_on wsX7_canBe := goodIn_r _ [12, 13, 14, 15, 16, 17, 18, 19, 11, 20, 26, 27, 28, 29, 30, 31, 32, 33, 34, 35, 36, 37, 38, 39, 40, 41, 42, 43, 44, 45, 46, 47, 48, 49, 50, 51, 52, 53, 54, 55, 56, 57, 58, 59, 60, 61, 62, 63, 64, 65, 66, 67, 68, 69, 70, 71, 72, 73, 74, 75, 76, 77, 78, 79, 80, 81, 82, 83, 84, 85, 86, 87, 88, 89, 90, 91, 92, 93, 94, 95, 96, 97, 98, 99, 100, 101, 102, 103, 104, 105, 106, 107, 108, 109, 110, 111, 112, 113, 114, 115, 116, 117] rfl (by decide +kernel)
set_option maxRecDepth 20000 in
theorem gX7_on_X7_canBe : GoodIn wsX7_on (wsV RX7 651 RX7 yX7_canBe wsX7_canBe) := goodIn_app (goodIn_of _ (by decide +kernel)) ggX7_on_X7_canBe
set_option maxRecDepth 20000 in
theorem ggX7_on_X7_refuses : GoodIn wsX7_on wsX7_refuses := goodIn_r _ [24, 25, 26, 27, 28, 29, 30, 31, 32, 33, 34, 35, 36, 37, 38, 39, 40, 41, 42, 43, 44, 45, 46, 47, 48, 49, 50, 51, 52, 53, 54, 55, 56, 57, 58, 59, 60, 61, 62, 63, 64, 65, 66, 67, 68, 69, 70, 71, 72, 73, 74, 75, 76, 77, 78, 79, 80, 81, 82, 83, 84, 85, 86, 87, 88, 89, 90, 91, 92, 93, 94, 95, 96, 97, 98, 99, 100, 101, 102, 103, 104, 105, 106, 107, 108, 109, 110, 111, 112, 113, 114, 115, 116, 117] rfl (by decide +kernel)
set_option maxRecDepth 20000 in
theorem gX7_on_X7_refuses : GoodIn wsX7_on (wsV RX7 291 RX7 yX7_refuses wsX7_refuses) := goodIn_app (goodIn_of _ (by decide +kernel)) ggX7_on_X7_refuses
set_option maxRecDepth 20000 in
theorem ggX7_on_X7_twoBytes : GoodIn wsX7_on wsX7_twoBytes := goodIn_r _ [20, 16, 26, 27, 28, 29, 30, 31, 32, 33, 34, 35, 36, 37, 38, 39, 40, 41, 42, 43, 44, 45, 46, 47, 48, 49, 50, 51, 52, 53, 54, 55, 56, 57, 58, 59, 60, 61, 62, 63, 64, 65, 66, 67, 68, 69, 70, 71, 72, 73, 74, 75, 76, 77, 78, 79, 80, 81, 82, 83, 84, 85, 86, 87, 88, 89, 90, 91, 92, 93, 94, 95, 96, 97, 98, 99, 100, 101, 102, 103, 104, 105, 106, 107, 108, 109, 110, 111, 112, 113, 114, 115, 116, 117] rfl (by decide +kernel)
set_option maxRecDepth 20000 in
theorem gX7_on_X7_twoBytes : GoodIn wsX7_on (wsV RX7 648 RX7 yX7_twoBytes wsX7_twoBytes) := goodIn_app (goodIn_of _ (by decide +kernel)) ggX7_on_X7_twoBytes
theorem dX7_on_0 : decode cX7_on 0 = .ok (.aload_n 0, 1) := by decide +kernel
theorem dX7_on_1 : decode cX7_on 1 = .ok (.getfield 13, 3) := by decide +kernel
theorem dX7_on_4 : decode cX7_on 4 = .ok (.istore_n 1, 1) := by decide +kernel
theorem dX7_on_5 : decode cX7_on 5 = .ok (.aload_n 0, 1) := by decide +kernel
theorem dX7_on_6 : decode cX7_on 6 = .ok (.iconst 0, 1) := by decide +kernel
theorem dX7_on_7 : decode cX7_on 7 = .ok (.putfield 13, 3) := by decide +kernel
theorem dX7_on_10 : decode cX7_on 10 = .ok (.aload_n 0, 1) := by decide +kernel
theorem dX7_on_11 : decode cX7_on 11 = .ok (.iload_n 1, 1) := by decide +kernel
theorem dX7_on_12 : decode cX7_on 12 = .ok (.invokevirtual 651, 3) := by decide +kernel
theorem dX7_on_15 : decode cX7_on 15 = .ok (.ifCond .ne 17, 3) := by decide +kernel
theorem dX7_on_18 : decode cX7_on 18 = .ok (.aload_n 0, 1) := by decide +kernel
theorem dX7_on_19 : decode cX7_on 19 = .ok (.iconst 5, 1) := by decide +kernel
theorem dX7_on_20 : decode cX7_on 20 = .ok (.invokevirtual 291, 3) := by decide +kernel
theorem dX7_on_23 : decode cX7_on 23 = .ok (.ifCond .lt 7, 3) := by decide +kernel
theorem dX7_on_26 : decode cX7_on 26 = .ok (.iconst 1, 1) := by decide +kernel
theorem dX7_on_27 : decode cX7_on 27 = .ok (.goto 4, 3) := by decide +kernel
theorem dX7_on_30 : decode cX7_on 30 = .ok (.iconst 0, 1) := by decide +kernel
theorem dX7_on_31 : decode cX7_on 31 = .ok (.ireturn, 1) := by decide +kernel
theorem dX7_on_32 : decode cX7_on 32 = .ok (.aload_n 0, 1) := by decide +kernel
theorem dX7_on_33 : decode cX7_on 33 = .ok (.getfield 171, 3) := by decide +kernel
theorem dX7_on_36 : decode cX7_on 36 = .ok (.iconst 0, 1) := by decide +kernel
theorem dX7_on_37 : decode cX7_on 37 = .ok (.aload_n 0, 1) := by decide +kernel
theorem dX7_on_38 : decode cX7_on 38 = .ok (.iconst 0, 1) := by decide +kernel
theorem dX7_on_39 : decode cX7_on 39 = .ok (.invokevirtual 648, 3) := by decide +kernel
theorem dX7_on_42 : decode cX7_on 42 = .ok (.iastore, 1) := by decide +kernel
theorem dX7_on_43 : decode cX7_on 43 = .ok (.aload_n 0, 1) := by decide +kernel
theorem dX7_on_44 : decode cX7_on 44 = .ok (.getfield 168, 3) := by decide +kernel
theorem dX7_on_47 : decode cX7_on 47 = .ok (.iconst 0, 1) := by decide +kernel
theorem dX7_on_48 : decode cX7_on 48 = .ok (.aload_n 0, 1) := by decide +kernel
theorem dX7_on_49 : decode cX7_on 49 = .ok (.iconst 2, 1) := by decide +kernel
theorem dX7_on_50 : decode cX7_on 50 = .ok (.invokevirtual 648, 3) := by decide +kernel
theorem dX7_on_53 : decode cX7_on 53 = .ok (.iastore, 1) := by decide +kernel
theorem dX7_on_54 : decode cX7_on 54 = .ok (.aload_n 0, 1) := by decide +kernel
theorem dX7_on_55 : decode cX7_on 55 = .ok (.getfield 165, 3) := by decide +kernel
theorem dX7_on_58 : decode cX7_on 58 = .ok (.iconst 0, 1) := by decide +kernel
theorem dX7_on_59 : decode cX7_on 59 = .ok (.aload_n 0, 1) := by decide +kernel
theorem dX7_on_60 : decode cX7_on 60 = .ok (.iconst 4, 1) := by decide +kernel
theorem dX7_on_61 : decode cX7_on 61 = .ok (.invokevirtual 648, 3) := by decide +kernel
theorem dX7_on_64 : decode cX7_on 64 = .ok (.iastore, 1) := by decide +kernel
theorem dX7_on_65 : decode cX7_on 65 = .ok (.aload_n 0, 1) := by decide +kernel
theorem dX7_on_66 : decode cX7_on 66 = .ok (.getfield 162, 3) := by decide +kernel
theorem dX7_on_69 : decode cX7_on 69 = .ok (.iconst 0, 1) := by decide +kernel
theorem dX7_on_70 : decode cX7_on 70 = .ok (.aload_n 0, 1) := by decide +kernel
theorem dX7_on_71 : decode cX7_on 71 = .ok (.bipush 6, 2) := by decide +kernel
theorem dX7_on_73 : decode cX7_on 73 = .ok (.invokevirtual 648, 3) := by decide +kernel
theorem dX7_on_76 : decode cX7_on 76 = .ok (.iastore, 1) := by decide +kernel
theorem dX7_on_77 : decode cX7_on 77 = .ok (.aload_n 0, 1) := by decide +kernel
theorem dX7_on_78 : decode cX7_on 78 = .ok (.getfield 174, 3) := by decide +kernel
theorem dX7_on_81 : decode cX7_on 81 = .ok (.iconst 0, 1) := by decide +kernel
theorem dX7_on_82 : decode cX7_on 82 = .ok (.iconst 0, 1) := by decide +kernel
theorem dX7_on_83 : decode cX7_on 83 = .ok (.iastore, 1) := by decide +kernel
theorem dX7_on_84 : decode cX7_on 84 = .ok (.aload_n 0, 1) := by decide +kernel
theorem dX7_on_85 : decode cX7_on 85 = .ok (.iconst 0, 1) := by decide +kernel
theorem dX7_on_86 : decode cX7_on 86 = .ok (.putfield 192, 3) := by decide +kernel
theorem dX7_on_89 : decode cX7_on 89 = .ok (.iconst 1, 1) := by decide +kernel
theorem dX7_on_90 : decode cX7_on 90 = .ok (.ireturn, 1) := by decide +kernel
theorem dJ6_bitCount_0f7a4_0 : decode cJ6_bitCount_0f7a4 0 = .ok (.iload_n 0, 1) := by decide +kernel
theorem dJ6_bitCount_0f7a4_1 : decode cJ6_bitCount_0f7a4 1 = .ok (.iload_n 0, 1) := by decide +kernel
theorem dJ6_bitCount_0f7a4_2 : decode cJ6_bitCount_0f7a4 2 = .ok (.iconst 1, 1) := by decide +kernel
theorem dJ6_bitCount_0f7a4_3 : decode cJ6_bitCount_0f7a4 3 = .ok (.iushr, 1) := by decide +kernel
theorem dJ6_bitCount_0f7a4_4 : decode cJ6_bitCount_0f7a4 4 = .ok (.ldc_w 265, 3) := by decide +kernel
theorem dJ6_bitCount_0f7a4_7 : decode cJ6_bitCount_0f7a4 7 = .ok (.iand, 1) := by decide +kernel
theorem dJ6_bitCount_0f7a4_8 : decode cJ6_bitCount_0f7a4 8 = .ok (.isub, 1) := by decide +kernel
theorem dJ6_bitCount_0f7a4_9 : decode cJ6_bitCount_0f7a4 9 = .ok (.istore_n 0, 1) := by decide +kernel
theorem dJ6_bitCount_0f7a4_10 : decode cJ6_bitCount_0f7a4 10 = .ok (.iload_n 0, 1) := by decide +kernel
theorem dJ6_bitCount_0f7a4_11 : decode cJ6_bitCount_0f7a4 11 = .ok (.ldc_w 266, 3) := by decide +kernel
theorem dJ6_bitCount_0f7a4_14 : decode cJ6_bitCount_0f7a4 14 = .ok (.iand, 1) := by decide +kernel
theorem dJ6_bitCount_0f7a4_15 : decode cJ6_bitCount_0f7a4 15 = .ok (.iload_n 0, 1) := by decide +kernel
theorem dJ6_bitCount_0f7a4_16 : decode cJ6_bitCount_0f7a4 16 = .ok (.iconst 2, 1) := by decide +kernel
theorem dJ6_bitCount_0f7a4_17 : decode cJ6_bitCount_0f7a4 17 = .ok (.iushr, 1) := by decide +kernel
theorem dJ6_bitCount_0f7a4_18 : decode cJ6_bitCount_0f7a4 18 = .ok (.ldc_w 266, 3) := by decide +kernel
theorem dJ6_bitCount_0f7a4_21 : decode cJ6_bitCount_0f7a4 21 = .ok (.iand, 1) := by decide +kernel
theorem dJ6_bitCount_0f7a4_22 : decode cJ6_bitCount_0f7a4 22 = .ok (.iadd, 1) := by decide +kernel
theorem dJ6_bitCount_0f7a4_23 : decode cJ6_bitCount_0f7a4 23 = .ok (.istore_n 0, 1) := by decide +kernel
theorem dJ6_bitCount_0f7a4_24 : decode cJ6_bitCount_0f7a4 24 = .ok (.iload_n 0, 1) := by decide +kernel
theorem dJ6_bitCount_0f7a4_25 : decode cJ6_bitCount_0f7a4 25 = .ok (.iload_n 0, 1) := by decide +kernel
theorem dJ6_bitCount_0f7a4_26 : decode cJ6_bitCount_0f7a4 26 = .ok (.iconst 4, 1) := by decide +kernel
theorem dJ6_bitCount_0f7a4_27 : decode cJ6_bitCount_0f7a4 27 = .ok (.iushr, 1) := by decide +kernel
theorem dJ6_bitCount_0f7a4_28 : decode cJ6_bitCount_0f7a4 28 = .ok (.iadd, 1) := by decide +kernel
theorem dJ6_bitCount_0f7a4_29 : decode cJ6_bitCount_0f7a4 29 = .ok (.ldc_w 267, 3) := by decide +kernel
theorem dJ6_bitCount_0f7a4_32 : decode cJ6_bitCount_0f7a4 32 = .ok (.iand, 1) := by decide +kernel
theorem dJ6_bitCount_0f7a4_33 : decode cJ6_bitCount_0f7a4 33 = .ok (.istore_n 0, 1) := by decide +kernel
theorem dJ6_bitCount_0f7a4_34 : decode cJ6_bitCount_0f7a4 34 = .ok (.iload_n 0, 1) := by decide +kernel
theorem dJ6_bitCount_0f7a4_35 : decode cJ6_bitCount_0f7a4 35 = .ok (.iload_n 0, 1) := by decide +kernel
theorem dJ6_bitCount_0f7a4_36 : decode cJ6_bitCount_0f7a4 36 = .ok (.bipush 8, 2) := by decide +kernel
theorem dJ6_bitCount_0f7a4_38 : decode cJ6_bitCount_0f7a4 38 = .ok (.iushr, 1) := by decide +kernel
theorem dJ6_bitCount_0f7a4_39 : decode cJ6_bitCount_0f7a4 39 = .ok (.iadd, 1) := by decide +kernel
theorem dJ6_bitCount_0f7a4_40 : decode cJ6_bitCount_0f7a4 40 = .ok (.istore_n 0, 1) := by decide +kernel
theorem dJ6_bitCount_0f7a4_41 : decode cJ6_bitCount_0f7a4 41 = .ok (.iload_n 0, 1) := by decide +kernel
theorem dJ6_bitCount_0f7a4_42 : decode cJ6_bitCount_0f7a4 42 = .ok (.iload_n 0, 1) := by decide +kernel
theorem dJ6_bitCount_0f7a4_43 : decode cJ6_bitCount_0f7a4 43 = .ok (.bipush 16, 2) := by decide +kernel
theorem dJ6_bitCount_0f7a4_45 : decode cJ6_bitCount_0f7a4 45 = .ok (.iushr, 1) := by decide +kernel
theorem dJ6_bitCount_0f7a4_46 : decode cJ6_bitCount_0f7a4 46 = .ok (.iadd, 1) := by decide +kernel
theorem dJ6_bitCount_0f7a4_47 : decode cJ6_bitCount_0f7a4 47 = .ok (.istore_n 0, 1) := by decide +kernel
theorem dJ6_bitCount_0f7a4_48 : decode cJ6_bitCount_0f7a4 48 = .ok (.iload_n 0, 1) := by decide +kernel
theorem dJ6_bitCount_0f7a4_49 : decode cJ6_bitCount_0f7a4 49 = .ok (.bipush 63, 2) := by decide +kernel
theorem dJ6_bitCount_0f7a4_51 : decode cJ6_bitCount_0f7a4 51 = .ok (.iand, 1) := by decide +kernel
theorem dJ6_bitCount_0f7a4_52 : decode cJ6_bitCount_0f7a4 52 = .ok (.ireturn, 1) := by decide +kernel
theorem dJ9_floorDiv_7cf53_0 : decode cJ9_floorDiv_7cf53 0 = .ok (.iload_n 0, 1) := by decide +kernel
theorem dJ9_floorDiv_7cf53_1 : decode cJ9_floorDiv_7cf53 1 = .ok (.iload_n 1, 1) := by decide +kernel
theorem dJ9_floorDiv_7cf53_2 : decode cJ9_floorDiv_7cf53 2 = .ok (.idiv, 1) := by decide +kernel
theorem dJ9_floorDiv_7cf53_3 : decode cJ9_floorDiv_7cf53 3 = .ok (.istore_n 2, 1) := by decide +kernel
theorem dJ9_floorDiv_7cf53_4 : decode cJ9_floorDiv_7cf53 4 = .ok (.iload_n 0, 1) := by decide +kernel
theorem dJ9_floorDiv_7cf53_5 : decode cJ9_floorDiv_7cf53 5 = .ok (.iload_n 1, 1) := by decide +kernel
theorem dJ9_floorDiv_7cf53_6 : decode cJ9_floorDiv_7cf53 6 = .ok (.ixor, 1) := by decide +kernel
theorem dJ9_floorDiv_7cf53_7 : decode cJ9_floorDiv_7cf53 7 = .ok (.ifCond .ge 14, 3) := by decide +kernel
theorem dJ9_floorDiv_7cf53_10 : decode cJ9_floorDiv_7cf53 10 = .ok (.iload_n 2, 1) := by decide +kernel
theorem dJ9_floorDiv_7cf53_11 : decode cJ9_floorDiv_7cf53 11 = .ok (.iload_n 1, 1) := by decide +kernel
theorem dJ9_floorDiv_7cf53_12 : decode cJ9_floorDiv_7cf53 12 = .ok (.imul, 1) := by decide +kernel
theorem dJ9_floorDiv_7cf53_13 : decode cJ9_floorDiv_7cf53 13 = .ok (.iload_n 0, 1) := by decide +kernel
theorem dJ9_floorDiv_7cf53_14 : decode cJ9_floorDiv_7cf53 14 = .ok (.if_icmp .eq 7, 3) := by decide +kernel
theorem dJ9_floorDiv_7cf53_17 : decode cJ9_floorDiv_7cf53 17 = .ok (.iload_n 2, 1) := by decide +kernel
theorem dJ9_floorDiv_7cf53_18 : decode cJ9_floorDiv_7cf53 18 = .ok (.iconst 1, 1) := by decide +kernel
theorem dJ9_floorDiv_7cf53_19 : decode cJ9_floorDiv_7cf53 19 = .ok (.isub, 1) := by decide +kernel
theorem dJ9_floorDiv_7cf53_20 : decode cJ9_floorDiv_7cf53 20 = .ok (.ireturn, 1) := by decide +kernel
theorem dJ9_floorDiv_7cf53_21 : decode cJ9_floorDiv_7cf53 21 = .ok (.iload_n 2, 1) := by decide +kernel
theorem dJ9_floorDiv_7cf53_22 : decode cJ9_floorDiv_7cf53 22 = .ok (.ireturn, 1) := by decide +kernel
theorem dJ9_floorMod_7cf53_0 : decode cJ9_floorMod_7cf53 0 = .ok (.iload_n 0, 1) := by decide +kernel
theorem dJ9_floorMod_7cf53_1 : decode cJ9_floorMod_7cf53 1 = .ok (.iload_n 1, 1) := by decide +kernel
theorem dJ9_floorMod_7cf53_2 : decode cJ9_floorMod_7cf53 2 = .ok (.irem, 1) := by decide +kernel
theorem dJ9_floorMod_7cf53_3 : decode cJ9_floorMod_7cf53 3 = .ok (.istore_n 2, 1) := by decide +kernel
theorem dJ9_floorMod_7cf53_4 : decode cJ9_floorMod_7cf53 4 = .ok (.iload_n 0, 1) := by decide +kernel
theorem dJ9_floorMod_7cf53_5 : decode cJ9_floorMod_7cf53 5 = .ok (.iload_n 1, 1) := by decide +kernel
theorem dJ9_floorMod_7cf53_6 : decode cJ9_floorMod_7cf53 6 = .ok (.ixor, 1) := by decide +kernel
theorem dJ9_floorMod_7cf53_7 : decode cJ9_floorMod_7cf53 7 = .ok (.ifCond .ge 11, 3) := by decide +kernel
theorem dJ9_floorMod_7cf53_10 : decode cJ9_floorMod_7cf53 10 = .ok (.iload_n 2, 1) := by decide +kernel
theorem dJ9_floorMod_7cf53_11 : decode cJ9_floorMod_7cf53 11 = .ok (.ifCond .eq 7, 3) := by decide +kernel
theorem dJ9_floorMod_7cf53_14 : decode cJ9_floorMod_7cf53 14 = .ok (.iload_n 2, 1) := by decide +kernel
theorem dJ9_floorMod_7cf53_15 : decode cJ9_floorMod_7cf53 15 = .ok (.iload_n 1, 1) := by decide +kernel
theorem dJ9_floorMod_7cf53_16 : decode cJ9_floorMod_7cf53 16 = .ok (.iadd, 1) := by decide +kernel
theorem dJ9_floorMod_7cf53_17 : decode cJ9_floorMod_7cf53 17 = .ok (.ireturn, 1) := by decide +kernel
theorem dJ9_floorMod_7cf53_18 : decode cJ9_floorMod_7cf53 18 = .ok (.iload_n 2, 1) := by decide +kernel
theorem dJ9_floorMod_7cf53_19 : decode cJ9_floorMod_7cf53 19 = .ok (.ireturn, 1) := by decide +kernel
theorem dJ9_max_7cf53_0 : decode cJ9_max_7cf53 0 = .ok (.iload_n 0, 1) := by decide +kernel
theorem dJ9_max_7cf53_1 : decode cJ9_max_7cf53 1 = .ok (.iload_n 1, 1) := by decide +kernel
theorem dJ9_max_7cf53_2 : decode cJ9_max_7cf53 2 = .ok (.if_icmp .lt 7, 3) := by decide +kernel
theorem dJ9_max_7cf53_5 : decode cJ9_max_7cf53 5 = .ok (.iload_n 0, 1) := by decide +kernel
theorem dJ9_max_7cf53_6 : decode cJ9_max_7cf53 6 = .ok (.goto 4, 3) := by decide +kernel
theorem dJ9_max_7cf53_9 : decode cJ9_max_7cf53 9 = .ok (.iload_n 1, 1) := by decide +kernel
theorem dJ9_max_7cf53_10 : decode cJ9_max_7cf53 10 = .ok (.ireturn, 1) := by decide +kernel
theorem dJ9_min_7cf53_0 : decode cJ9_min_7cf53 0 = .ok (.iload_n 0, 1) := by decide +kernel
theorem dJ9_min_7cf53_1 : decode cJ9_min_7cf53 1 = .ok (.iload_n 1, 1) := by decide +kernel
theorem dJ9_min_7cf53_2 : decode cJ9_min_7cf53 2 = .ok (.if_icmp .gt 7, 3) := by decide +kernel
theorem dJ9_min_7cf53_5 : decode cJ9_min_7cf53 5 = .ok (.iload_n 0, 1) := by decide +kernel
theorem dJ9_min_7cf53_6 : decode cJ9_min_7cf53 6 = .ok (.goto 4, 3) := by decide +kernel
theorem dJ9_min_7cf53_9 : decode cJ9_min_7cf53 9 = .ok (.iload_n 1, 1) := by decide +kernel
theorem dJ9_min_7cf53_10 : decode cJ9_min_7cf53 10 = .ok (.ireturn, 1) := by decide +kernel
set_option maxRecDepth 20000 in
theorem ggJ0_length_8abf5_J0_coder_7d493 : GoodIn wsJ0_length_8abf5 wsJ0_coder_7d493 := goodIn_r _ [6, 7, 8] rfl (by decide +kernel)
set_option maxRecDepth 20000 in
theorem gJ0_length_8abf5_J0_coder_7d493 : GoodIn wsJ0_length_8abf5 (wsV RJ0 335 RJ0 yJ0_coder_7d493 wsJ0_coder_7d493) := goodIn_app (goodIn_of _ (by decide +kernel)) ggJ0_length_8abf5_J0_coder_7d493
theorem dJ0_length_8abf5_0 : decode cJ0_length_8abf5 0 = .ok (.aload_n 0, 1) := by decide +kernel
theorem dJ0_length_8abf5_1 : decode cJ0_length_8abf5 1 = .ok (.getfield 9, 3) := by decide +kernel
theorem dJ0_length_8abf5_4 : decode cJ0_length_8abf5 4 = .ok (.arraylength, 1) := by decide +kernel
theorem dJ0_length_8abf5_5 : decode cJ0_length_8abf5 5 = .ok (.aload_n 0, 1) := by decide +kernel
theorem dJ0_length_8abf5_6 : decode cJ0_length_8abf5 6 = .ok (.invokevirtual 335, 3) := by decide +kernel
theorem dJ0_length_8abf5_9 : decode cJ0_length_8abf5 9 = .ok (.ishr, 1) := by decide +kernel
theorem dJ0_length_8abf5_10 : decode cJ0_length_8abf5 10 = .ok (.ireturn, 1) := by decide +kernel
set_option maxRecDepth 20000 in
theorem ggJ0_charAt_5068e_J0_isLatin1_aae02 : GoodIn wsJ0_charAt_5068e wsJ0_isLatin1_aae02 := goodIn_r _ [6, 7, 8] rfl (by decide +kernel)
set_option maxRecDepth 20000 in
theorem gJ0_charAt_5068e_J0_isLatin1_aae02 : GoodIn wsJ0_charAt_5068e (wsV RJ0 492 RJ0 yJ0_isLatin1_aae02 wsJ0_isLatin1_aae02) := goodIn_app (goodIn_of _ (by decide +kernel)) ggJ0_charAt_5068e_J0_isLatin1_aae02
set_option maxRecDepth 20000 in
theorem ggJ0_charAt_5068e_J1_charAt_3b067 : GoodIn wsJ0_charAt_5068e wsJ1_charAt_3b067 := goodIn_r _ [12, 13, 14, 5, 15, 16, 17, 18, 19, 20] rfl (by decide +kernel)
set_option maxRecDepth 20000 in
theorem gJ0_charAt_5068e_J1_charAt_3b067 : GoodIn wsJ0_charAt_5068e (va_wsS RJ0 495 yJ1_charAt_3b067 wsJ1_charAt_3b067) := goodIn_app (goodIn_of _ (by decide +kernel)) ggJ0_charAt_5068e_J1_charAt_3b067
set_option maxRecDepth 20000 in
theorem ggJ0_charAt_5068e_J2_charAt_3b067 : GoodIn wsJ0_charAt_5068e wsJ2_charAt_3b067 := goodIn_r _ [24, 25, 26, 23, 27, 28, 29, 30, 31, 14, 5, 15, 16, 17, 18, 19, 20, 32, 33, 34, 35, 36, 37] rfl (by decide +kernel)
set_option maxRecDepth 20000 in
theorem gJ0_charAt_5068e_J2_charAt_3b067 : GoodIn wsJ0_charAt_5068e (va_wsS RJ0 498 yJ2_charAt_3b067 wsJ2_charAt_3b067) := goodIn_app (goodIn_of _ (by decide +kernel)) ggJ0_charAt_5068e_J2_charAt_3b067
theorem dJ0_charAt_5068e_0 : decode cJ0_charAt_5068e 0 = .ok (.aload_n 0, 1) := by decide +kernel
theorem dJ0_charAt_5068e_1 : decode cJ0_charAt_5068e 1 = .ok (.invokevirtual 492, 3) := by decide +kernel
theorem dJ0_charAt_5068e_4 : decode cJ0_charAt_5068e 4 = .ok (.ifCond .eq 12, 3) := by decide +kernel
theorem dJ0_charAt_5068e_7 : decode cJ0_charAt_5068e 7 = .ok (.aload_n 0, 1) := by decide +kernel
theorem dJ0_charAt_5068e_8 : decode cJ0_charAt_5068e 8 = .ok (.getfield 9, 3) := by decide +kernel
theorem dJ0_charAt_5068e_11 : decode cJ0_charAt_5068e 11 = .ok (.iload_n 1, 1) := by decide +kernel
theorem dJ0_charAt_5068e_12 : decode cJ0_charAt_5068e 12 = .ok (.invokestatic 495, 3) := by decide +kernel
theorem dJ0_charAt_5068e_15 : decode cJ0_charAt_5068e 15 = .ok (.ireturn, 1) := by decide +kernel
theorem dJ0_charAt_5068e_16 : decode cJ0_charAt_5068e 16 = .ok (.aload_n 0, 1) := by decide +kernel
theorem dJ0_charAt_5068e_17 : decode cJ0_charAt_5068e 17 = .ok (.getfield 9, 3) := by decide +kernel
theorem dJ0_charAt_5068e_20 : decode cJ0_charAt_5068e 20 = .ok (.iload_n 1, 1) := by decide +kernel
theorem dJ0_charAt_5068e_21 : decode cJ0_charAt_5068e 21 = .ok (.invokestatic 498, 3) := by decide +kernel
theorem dJ0_charAt_5068e_24 : decode cJ0_charAt_5068e 24 = .ok (.ireturn, 1) := by decide +kernel
theorem dJ0_coder_7d493_0 : decode cJ0_coder_7d493 0 = .ok (.getstatic 38, 3) := by decide +kernel
theorem dJ0_coder_7d493_3 : decode cJ0_coder_7d493 3 = .ok (.ifCond .eq 10, 3) := by decide +kernel
theorem dJ0_coder_7d493_6 : decode cJ0_coder_7d493 6 = .ok (.aload_n 0, 1) := by decide +kernel
theorem dJ0_coder_7d493_7 : decode cJ0_coder_7d493 7 = .ok (.getfield 15, 3) := by decide +kernel
theorem dJ0_coder_7d493_10 : decode cJ0_coder_7d493 10 = .ok (.goto 4, 3) := by decide +kernel
theorem dJ0_coder_7d493_13 : decode cJ0_coder_7d493 13 = .ok (.iconst 1, 1) := by decide +kernel
theorem dJ0_coder_7d493_14 : decode cJ0_coder_7d493 14 = .ok (.ireturn, 1) := by decide +kernel
theorem dJ0_isLatin1_aae02_0 : decode cJ0_isLatin1_aae02 0 = .ok (.getstatic 38, 3) := by decide +kernel
theorem dJ0_isLatin1_aae02_3 : decode cJ0_isLatin1_aae02 3 = .ok (.ifCond .eq 14, 3) := by decide +kernel
theorem dJ0_isLatin1_aae02_6 : decode cJ0_isLatin1_aae02 6 = .ok (.aload_n 0, 1) := by decide +kernel
theorem dJ0_isLatin1_aae02_7 : decode cJ0_isLatin1_aae02 7 = .ok (.getfield 15, 3) := by decide +kernel
theorem dJ0_isLatin1_aae02_10 : decode cJ0_isLatin1_aae02 10 = .ok (.ifCond .ne 7, 3) := by decide +kernel
theorem dJ0_isLatin1_aae02_13 : decode cJ0_isLatin1_aae02 13 = .ok (.iconst 1, 1) := by decide +kernel
theorem dJ0_isLatin1_aae02_14 : decode cJ0_isLatin1_aae02 14 = .ok (.goto 4, 3) := by decide +kernel
theorem dJ0_isLatin1_aae02_17 : decode cJ0_isLatin1_aae02 17 = .ok (.iconst 0, 1) := by decide +kernel
theorem dJ0_isLatin1_aae02_18 : decode cJ0_isLatin1_aae02 18 = .ok (.ireturn, 1) := by decide +kernel
set_option maxRecDepth 20000 in
theorem ggJ0_checkIndex_df160_J3_checkIndex_8e157 : GoodIn wsJ0_checkIndex_df160 wsJ3_checkIndex_8e157 := goodIn_r _ [5] rfl (by decide +kernel)
set_option maxRecDepth 20000 in
theorem gJ0_checkIndex_df160_J3_checkIndex_8e157 : GoodIn wsJ0_checkIndex_df160 (va_wsS RJ0 1059 yJ3_checkIndex_8e157 wsJ3_checkIndex_8e157) := goodIn_app (goodIn_of _ (by decide +kernel)) ggJ0_checkIndex_df160_J3_checkIndex_8e157
theorem dJ0_checkIndex_df160_0 : decode cJ0_checkIndex_df160 0 = .ok (.iload_n 0, 1) := by decide +kernel
theorem dJ0_checkIndex_df160_1 : decode cJ0_checkIndex_df160 1 = .ok (.iload_n 1, 1) := by decide +kernel
theorem dJ0_checkIndex_df160_2 : decode cJ0_checkIndex_df160 2 = .ok (.getstatic 1053, 3) := by decide +kernel
theorem dJ0_checkIndex_df160_5 : decode cJ0_checkIndex_df160 5 = .ok (.invokestatic 1059, 3) := by decide +kernel
theorem dJ0_checkIndex_df160_8 : decode cJ0_checkIndex_df160 8 = .ok (.pop, 1) := by decide +kernel
theorem dJ0_checkIndex_df160_9 : decode cJ0_checkIndex_df160 9 = .ok (.return_, 1) := by decide +kernel
set_option maxRecDepth 20000 in
theorem ggJ1_charAt_3b067_J0_checkIndex_df160 : GoodIn wsJ1_charAt_3b067 wsJ0_checkIndex_df160 := goodIn_r _ [4, 5, 6, 7, 8, 9] rfl (by decide +kernel)
set_option maxRecDepth 20000 in
theorem gJ1_charAt_3b067_J0_checkIndex_df160 : GoodIn wsJ1_charAt_3b067 (va_wsS RJ1 9 yJ0_checkIndex_df160 wsJ0_checkIndex_df160) := goodIn_app (goodIn_of _ (by decide +kernel)) ggJ1_charAt_3b067_J0_checkIndex_df160
theorem dJ1_charAt_3b067_0 : decode cJ1_charAt_3b067 0 = .ok (.iload_n 1, 1) := by decide +kernel
theorem dJ1_charAt_3b067_1 : decode cJ1_charAt_3b067 1 = .ok (.aload_n 0, 1) := by decide +kernel
theorem dJ1_charAt_3b067_2 : decode cJ1_charAt_3b067 2 = .ok (.arraylength, 1) := by decide +kernel
theorem dJ1_charAt_3b067_3 : decode cJ1_charAt_3b067 3 = .ok (.invokestatic 9, 3) := by decide +kernel
theorem dJ1_charAt_3b067_6 : decode cJ1_charAt_3b067 6 = .ok (.aload_n 0, 1) := by decide +kernel
theorem dJ1_charAt_3b067_7 : decode cJ1_charAt_3b067 7 = .ok (.iload_n 1, 1) := by decide +kernel
theorem dJ1_charAt_3b067_8 : decode cJ1_charAt_3b067 8 = .ok (.baload, 1) := by decide +kernel
theorem dJ1_charAt_3b067_9 : decode cJ1_charAt_3b067 9 = .ok (.sipush 255, 3) := by decide +kernel
theorem dJ1_charAt_3b067_12 : decode cJ1_charAt_3b067 12 = .ok (.iand, 1) := by decide +kernel
theorem dJ1_charAt_3b067_13 : decode cJ1_charAt_3b067 13 = .ok (.i2c, 1) := by decide +kernel
theorem dJ1_charAt_3b067_14 : decode cJ1_charAt_3b067 14 = .ok (.ireturn, 1) := by decide +kernel
set_option maxRecDepth 20000 in
theorem ggJ2_getChar_3b067_J2_length_9d52b : GoodIn wsJ2_getChar_3b067 wsJ2_length_9d52b := goodIn_r _ [7] rfl (by decide +kernel)
set_option maxRecDepth 20000 in
theorem gJ2_getChar_3b067_J2_length_9d52b : GoodIn wsJ2_getChar_3b067 (va_wsS RJ2 48 yJ2_length_9d52b wsJ2_length_9d52b) := goodIn_app (goodIn_of _ (by decide +kernel)) ggJ2_getChar_3b067_J2_length_9d52b
theorem dJ2_getChar_3b067_0 : decode cJ2_getChar_3b067 0 = .ok (.getstatic 44, 3) := by decide +kernel
theorem dJ2_getChar_3b067_3 : decode cJ2_getChar_3b067 3 = .ok (.ifCond .ne 25, 3) := by decide +kernel
theorem dJ2_getChar_3b067_6 : decode cJ2_getChar_3b067 6 = .ok (.iload_n 1, 1) := by decide +kernel
theorem dJ2_getChar_3b067_7 : decode cJ2_getChar_3b067 7 = .ok (.ifCond .lt 11, 3) := by decide +kernel
theorem dJ2_getChar_3b067_10 : decode cJ2_getChar_3b067 10 = .ok (.iload_n 1, 1) := by decide +kernel
theorem dJ2_getChar_3b067_11 : decode cJ2_getChar_3b067 11 = .ok (.aload_n 0, 1) := by decide +kernel
theorem dJ2_getChar_3b067_12 : decode cJ2_getChar_3b067 12 = .ok (.invokestatic 48, 3) := by decide +kernel
theorem dJ2_getChar_3b067_15 : decode cJ2_getChar_3b067 15 = .ok (.if_icmp .lt 13, 3) := by decide +kernel
theorem dJ2_getChar_3b067_18 : decode cJ2_getChar_3b067 18 = .ok (.new 52, 3) := by decide +kernel
theorem dJ2_getChar_3b067_21 : decode cJ2_getChar_3b067 21 = .ok (.dup, 1) := by decide +kernel
theorem dJ2_getChar_3b067_22 : decode cJ2_getChar_3b067 22 = .ok (.ldc 54, 2) := by decide +kernel
theorem dJ2_getChar_3b067_24 : decode cJ2_getChar_3b067 24 = .ok (.invokespecial 56, 3) := by decide +kernel
theorem dJ2_getChar_3b067_27 : decode cJ2_getChar_3b067 27 = .ok (.athrow, 1) := by decide +kernel
theorem dJ2_getChar_3b067_28 : decode cJ2_getChar_3b067 28 = .ok (.iload_n 1, 1) := by decide +kernel
theorem dJ2_getChar_3b067_29 : decode cJ2_getChar_3b067 29 = .ok (.iconst 1, 1) := by decide +kernel
theorem dJ2_getChar_3b067_30 : decode cJ2_getChar_3b067 30 = .ok (.ishl, 1) := by decide +kernel
theorem dJ2_getChar_3b067_31 : decode cJ2_getChar_3b067 31 = .ok (.istore_n 1, 1) := by decide +kernel
theorem dJ2_getChar_3b067_32 : decode cJ2_getChar_3b067 32 = .ok (.aload_n 0, 1) := by decide +kernel
theorem dJ2_getChar_3b067_33 : decode cJ2_getChar_3b067 33 = .ok (.iload_n 1, 1) := by decide +kernel
theorem dJ2_getChar_3b067_34 : decode cJ2_getChar_3b067 34 = .ok (.iinc 1 1, 3) := by decide +kernel
theorem dJ2_getChar_3b067_37 : decode cJ2_getChar_3b067 37 = .ok (.baload, 1) := by decide +kernel
theorem dJ2_getChar_3b067_38 : decode cJ2_getChar_3b067 38 = .ok (.sipush 255, 3) := by decide +kernel
theorem dJ2_getChar_3b067_41 : decode cJ2_getChar_3b067 41 = .ok (.iand, 1) := by decide +kernel
theorem dJ2_getChar_3b067_42 : decode cJ2_getChar_3b067 42 = .ok (.getstatic 59, 3) := by decide +kernel
theorem dJ2_getChar_3b067_45 : decode cJ2_getChar_3b067 45 = .ok (.ishl, 1) := by decide +kernel
theorem dJ2_getChar_3b067_46 : decode cJ2_getChar_3b067 46 = .ok (.aload_n 0, 1) := by decide +kernel
theorem dJ2_getChar_3b067_47 : decode cJ2_getChar_3b067 47 = .ok (.iload_n 1, 1) := by decide +kernel
theorem dJ2_getChar_3b067_48 : decode cJ2_getChar_3b067 48 = .ok (.baload, 1) := by decide +kernel
theorem dJ2_getChar_3b067_49 : decode cJ2_getChar_3b067 49 = .ok (.sipush 255, 3) := by decide +kernel
theorem dJ2_getChar_3b067_52 : decode cJ2_getChar_3b067 52 = .ok (.iand, 1) := by decide +kernel
theorem dJ2_getChar_3b067_53 : decode cJ2_getChar_3b067 53 = .ok (.getstatic 63, 3) := by decide +kernel
theorem dJ2_getChar_3b067_56 : decode cJ2_getChar_3b067 56 = .ok (.ishl, 1) := by decide +kernel
theorem dJ2_getChar_3b067_57 : decode cJ2_getChar_3b067 57 = .ok (.ior, 1) := by decide +kernel
theorem dJ2_getChar_3b067_58 : decode cJ2_getChar_3b067 58 = .ok (.i2c, 1) := by decide +kernel
theorem dJ2_getChar_3b067_59 : decode cJ2_getChar_3b067 59 = .ok (.ireturn, 1) := by decide +kernel
theorem dJ2_length_9d52b_0 : decode cJ2_length_9d52b 0 = .ok (.aload_n 0, 1) := by decide +kernel
theorem dJ2_length_9d52b_1 : decode cJ2_length_9d52b 1 = .ok (.arraylength, 1) := by decide +kernel
theorem dJ2_length_9d52b_2 : decode cJ2_length_9d52b 2 = .ok (.iconst 1, 1) := by decide +kernel
theorem dJ2_length_9d52b_3 : decode cJ2_length_9d52b 3 = .ok (.ishr, 1) := by decide +kernel
theorem dJ2_length_9d52b_4 : decode cJ2_length_9d52b 4 = .ok (.ireturn, 1) := by decide +kernel
set_option maxRecDepth 20000 in
theorem ggJ2_charAt_3b067_J2_checkIndex_2214a : GoodIn wsJ2_charAt_3b067 wsJ2_checkIndex_2214a := goodIn_r _ [4, 5, 6, 3, 7, 8, 9, 10, 11, 12, 13, 14, 15, 16] rfl (by decide +kernel)
set_option maxRecDepth 20000 in
theorem gJ2_charAt_3b067_J2_checkIndex_2214a : GoodIn wsJ2_charAt_3b067 (va_wsS RJ2 67 yJ2_checkIndex_2214a wsJ2_checkIndex_2214a) := goodIn_app (goodIn_of _ (by decide +kernel)) ggJ2_charAt_3b067_J2_checkIndex_2214a
set_option maxRecDepth 20000 in
theorem ggJ2_charAt_3b067_J2_getChar_3b067 : GoodIn wsJ2_charAt_3b067 wsJ2_getChar_3b067 := goodIn_r _ [19, 20, 21, 22, 5, 6, 3, 7] rfl (by decide +kernel)
set_option maxRecDepth 20000 in
theorem gJ2_charAt_3b067_J2_getChar_3b067 : GoodIn wsJ2_charAt_3b067 (va_wsS RJ2 71 yJ2_getChar_3b067 wsJ2_getChar_3b067) := goodIn_app (goodIn_of _ (by decide +kernel)) ggJ2_charAt_3b067_J2_getChar_3b067
theorem dJ2_charAt_3b067_0 : decode cJ2_charAt_3b067 0 = .ok (.iload_n 1, 1) := by decide +kernel
theorem dJ2_charAt_3b067_1 : decode cJ2_charAt_3b067 1 = .ok (.aload_n 0, 1) := by decide +kernel
theorem dJ2_charAt_3b067_2 : decode cJ2_charAt_3b067 2 = .ok (.invokestatic 67, 3) := by decide +kernel
theorem dJ2_charAt_3b067_5 : decode cJ2_charAt_3b067 5 = .ok (.aload_n 0, 1) := by decide +kernel
theorem dJ2_charAt_3b067_6 : decode cJ2_charAt_3b067 6 = .ok (.iload_n 1, 1) := by decide +kernel
theorem dJ2_charAt_3b067_7 : decode cJ2_charAt_3b067 7 = .ok (.invokestatic 71, 3) := by decide +kernel
theorem dJ2_charAt_3b067_10 : decode cJ2_charAt_3b067 10 = .ok (.ireturn, 1) := by decide +kernel
set_option maxRecDepth 20000 in
theorem ggJ2_checkIndex_2214a_J2_length_9d52b : GoodIn wsJ2_checkIndex_2214a wsJ2_length_9d52b := goodIn_r _ [4] rfl (by decide +kernel)
set_option maxRecDepth 20000 in
theorem gJ2_checkIndex_2214a_J2_length_9d52b : GoodIn wsJ2_checkIndex_2214a (va_wsS RJ2 48 yJ2_length_9d52b wsJ2_length_9d52b) := goodIn_app (goodIn_of _ (by decide +kernel)) ggJ2_checkIndex_2214a_J2_length_9d52b
set_option maxRecDepth 20000 in
theorem ggJ2_checkIndex_2214a_J0_checkIndex_df160 : GoodIn wsJ2_checkIndex_2214a wsJ0_checkIndex_df160 := goodIn_r _ [8, 9, 10, 11, 12, 13] rfl (by decide +kernel)
set_option maxRecDepth 20000 in
theorem gJ2_checkIndex_2214a_J0_checkIndex_df160 : GoodIn wsJ2_checkIndex_2214a (va_wsS RJ2 414 yJ0_checkIndex_df160 wsJ0_checkIndex_df160) := goodIn_app (goodIn_of _ (by decide +kernel)) ggJ2_checkIndex_2214a_J0_checkIndex_df160
theorem dJ2_checkIndex_2214a_0 : decode cJ2_checkIndex_2214a 0 = .ok (.iload_n 0, 1) := by decide +kernel
theorem dJ2_checkIndex_2214a_1 : decode cJ2_checkIndex_2214a 1 = .ok (.aload_n 1, 1) := by decide +kernel
theorem dJ2_checkIndex_2214a_2 : decode cJ2_checkIndex_2214a 2 = .ok (.invokestatic 48, 3) := by decide +kernel
theorem dJ2_checkIndex_2214a_5 : decode cJ2_checkIndex_2214a 5 = .ok (.invokestatic 414, 3) := by decide +kernel
theorem dJ2_checkIndex_2214a_8 : decode cJ2_checkIndex_2214a 8 = .ok (.return_, 1) := by decide +kernel
theorem dJ7_rangeCheck_23922_0 : decode cJ7_rangeCheck_23922 0 = .ok (.iload_n 1, 1) := by decide +kernel
theorem dJ7_rangeCheck_23922_1 : decode cJ7_rangeCheck_23922 1 = .ok (.iload_n 2, 1) := by decide +kernel
theorem dJ7_rangeCheck_23922_2 : decode cJ7_rangeCheck_23922 2 = .ok (.if_icmp .le 44, 3) := by decide +kernel
theorem dJ7_rangeCheck_23922_5 : decode cJ7_rangeCheck_23922 5 = .ok (.new 43, 3) := by decide +kernel
theorem dJ7_rangeCheck_23922_8 : decode cJ7_rangeCheck_23922 8 = .ok (.dup, 1) := by decide +kernel
theorem dJ7_rangeCheck_23922_9 : decode cJ7_rangeCheck_23922 9 = .ok (.new 45, 3) := by decide +kernel
theorem dJ7_rangeCheck_23922_12 : decode cJ7_rangeCheck_23922 12 = .ok (.dup, 1) := by decide +kernel
theorem dJ7_rangeCheck_23922_13 : decode cJ7_rangeCheck_23922 13 = .ok (.invokespecial 47, 3) := by decide +kernel
theorem dJ7_rangeCheck_23922_16 : decode cJ7_rangeCheck_23922 16 = .ok (.ldc 48, 2) := by decide +kernel
theorem dJ7_rangeCheck_23922_18 : decode cJ7_rangeCheck_23922 18 = .ok (.invokevirtual 50, 3) := by decide +kernel
theorem dJ7_rangeCheck_23922_21 : decode cJ7_rangeCheck_23922 21 = .ok (.iload_n 1, 1) := by decide +kernel
theorem dJ7_rangeCheck_23922_22 : decode cJ7_rangeCheck_23922 22 = .ok (.invokevirtual 54, 3) := by decide +kernel
theorem dJ7_rangeCheck_23922_25 : decode cJ7_rangeCheck_23922 25 = .ok (.ldc 57, 2) := by decide +kernel
theorem dJ7_rangeCheck_23922_27 : decode cJ7_rangeCheck_23922 27 = .ok (.invokevirtual 50, 3) := by decide +kernel
theorem dJ7_rangeCheck_23922_30 : decode cJ7_rangeCheck_23922 30 = .ok (.iload_n 2, 1) := by decide +kernel
theorem dJ7_rangeCheck_23922_31 : decode cJ7_rangeCheck_23922 31 = .ok (.invokevirtual 54, 3) := by decide +kernel
theorem dJ7_rangeCheck_23922_34 : decode cJ7_rangeCheck_23922 34 = .ok (.ldc 59, 2) := by decide +kernel
theorem dJ7_rangeCheck_23922_36 : decode cJ7_rangeCheck_23922 36 = .ok (.invokevirtual 50, 3) := by decide +kernel
theorem dJ7_rangeCheck_23922_39 : decode cJ7_rangeCheck_23922 39 = .ok (.invokevirtual 61, 3) := by decide +kernel
theorem dJ7_rangeCheck_23922_42 : decode cJ7_rangeCheck_23922 42 = .ok (.invokespecial 65, 3) := by decide +kernel
theorem dJ7_rangeCheck_23922_45 : decode cJ7_rangeCheck_23922 45 = .ok (.athrow, 1) := by decide +kernel
theorem dJ7_rangeCheck_23922_46 : decode cJ7_rangeCheck_23922 46 = .ok (.iload_n 1, 1) := by decide +kernel
theorem dJ7_rangeCheck_23922_47 : decode cJ7_rangeCheck_23922 47 = .ok (.ifCond .ge 12, 3) := by decide +kernel
theorem dJ7_rangeCheck_23922_50 : decode cJ7_rangeCheck_23922 50 = .ok (.new 68, 3) := by decide +kernel
theorem dJ7_rangeCheck_23922_53 : decode cJ7_rangeCheck_23922 53 = .ok (.dup, 1) := by decide +kernel
theorem dJ7_rangeCheck_23922_54 : decode cJ7_rangeCheck_23922 54 = .ok (.iload_n 1, 1) := by decide +kernel
theorem dJ7_rangeCheck_23922_55 : decode cJ7_rangeCheck_23922 55 = .ok (.invokespecial 70, 3) := by decide +kernel
theorem dJ7_rangeCheck_23922_58 : decode cJ7_rangeCheck_23922 58 = .ok (.athrow, 1) := by decide +kernel
theorem dJ7_rangeCheck_23922_59 : decode cJ7_rangeCheck_23922 59 = .ok (.iload_n 2, 1) := by decide +kernel
theorem dJ7_rangeCheck_23922_60 : decode cJ7_rangeCheck_23922 60 = .ok (.iload_n 0, 1) := by decide +kernel
theorem dJ7_rangeCheck_23922_61 : decode cJ7_rangeCheck_23922 61 = .ok (.if_icmp .le 12, 3) := by decide +kernel
theorem dJ7_rangeCheck_23922_64 : decode cJ7_rangeCheck_23922 64 = .ok (.new 68, 3) := by decide +kernel
theorem dJ7_rangeCheck_23922_67 : decode cJ7_rangeCheck_23922 67 = .ok (.dup, 1) := by decide +kernel
theorem dJ7_rangeCheck_23922_68 : decode cJ7_rangeCheck_23922 68 = .ok (.iload_n 2, 1) := by decide +kernel
theorem dJ7_rangeCheck_23922_69 : decode cJ7_rangeCheck_23922 69 = .ok (.invokespecial 70, 3) := by decide +kernel
theorem dJ7_rangeCheck_23922_72 : decode cJ7_rangeCheck_23922 72 = .ok (.athrow, 1) := by decide +kernel
theorem dJ7_rangeCheck_23922_73 : decode cJ7_rangeCheck_23922 73 = .ok (.return_, 1) := by decide +kernel
theorem dJ7_fill_d0a16_0 : decode cJ7_fill_d0a16 0 = .ok (.iconst 0, 1) := by decide +kernel
theorem dJ7_fill_d0a16_1 : decode cJ7_fill_d0a16 1 = .ok (.istore_n 3, 1) := by decide +kernel
theorem dJ7_fill_d0a16_2 : decode cJ7_fill_d0a16 2 = .ok (.aload_n 0, 1) := by decide +kernel
theorem dJ7_fill_d0a16_3 : decode cJ7_fill_d0a16 3 = .ok (.arraylength, 1) := by decide +kernel
theorem dJ7_fill_d0a16_4 : decode cJ7_fill_d0a16 4 = .ok (.istore 4, 2) := by decide +kernel
theorem dJ7_fill_d0a16_6 : decode cJ7_fill_d0a16 6 = .ok (.iload_n 3, 1) := by decide +kernel
theorem dJ7_fill_d0a16_7 : decode cJ7_fill_d0a16 7 = .ok (.iload 4, 2) := by decide +kernel
theorem dJ7_fill_d0a16_9 : decode cJ7_fill_d0a16 9 = .ok (.if_icmp .ge 13, 3) := by decide +kernel
theorem dJ7_fill_d0a16_12 : decode cJ7_fill_d0a16 12 = .ok (.aload_n 0, 1) := by decide +kernel
theorem dJ7_fill_d0a16_13 : decode cJ7_fill_d0a16 13 = .ok (.iload_n 3, 1) := by decide +kernel
theorem dJ7_fill_d0a16_14 : decode cJ7_fill_d0a16 14 = .ok (.lload_n 1, 1) := by decide +kernel
theorem dJ7_fill_d0a16_15 : decode cJ7_fill_d0a16 15 = .ok (.lastore, 1) := by decide +kernel
theorem dJ7_fill_d0a16_16 : decode cJ7_fill_d0a16 16 = .ok (.iinc 3 1, 3) := by decide +kernel
theorem dJ7_fill_d0a16_19 : decode cJ7_fill_d0a16 19 = .ok (.goto (-13), 3) := by decide +kernel
theorem dJ7_fill_d0a16_22 : decode cJ7_fill_d0a16 22 = .ok (.return_, 1) := by decide +kernel
theorem dJ7_fill_53178_0 : decode cJ7_fill_53178 0 = .ok (.iconst 0, 1) := by decide +kernel
theorem dJ7_fill_53178_1 : decode cJ7_fill_53178 1 = .ok (.istore_n 2, 1) := by decide +kernel
theorem dJ7_fill_53178_2 : decode cJ7_fill_53178 2 = .ok (.aload_n 0, 1) := by decide +kernel
theorem dJ7_fill_53178_3 : decode cJ7_fill_53178 3 = .ok (.arraylength, 1) := by decide +kernel
theorem dJ7_fill_53178_4 : decode cJ7_fill_53178 4 = .ok (.istore_n 3, 1) := by decide +kernel
theorem dJ7_fill_53178_5 : decode cJ7_fill_53178 5 = .ok (.iload_n 2, 1) := by decide +kernel
theorem dJ7_fill_53178_6 : decode cJ7_fill_53178 6 = .ok (.iload_n 3, 1) := by decide +kernel
theorem dJ7_fill_53178_7 : decode cJ7_fill_53178 7 = .ok (.if_icmp .ge 13, 3) := by decide +kernel
theorem dJ7_fill_53178_10 : decode cJ7_fill_53178 10 = .ok (.aload_n 0, 1) := by decide +kernel
theorem dJ7_fill_53178_11 : decode cJ7_fill_53178 11 = .ok (.iload_n 2, 1) := by decide +kernel
theorem dJ7_fill_53178_12 : decode cJ7_fill_53178 12 = .ok (.iload_n 1, 1) := by decide +kernel
theorem dJ7_fill_53178_13 : decode cJ7_fill_53178 13 = .ok (.iastore, 1) := by decide +kernel
theorem dJ7_fill_53178_14 : decode cJ7_fill_53178 14 = .ok (.iinc 2 1, 3) := by decide +kernel
theorem dJ7_fill_53178_17 : decode cJ7_fill_53178 17 = .ok (.goto (-12), 3) := by decide +kernel
theorem dJ7_fill_53178_20 : decode cJ7_fill_53178 20 = .ok (.return_, 1) := by decide +kernel
set_option maxRecDepth 20000 in
theorem ggJ7_fill_fda19_J7_rangeCheck_23922 : GoodIn wsJ7_fill_fda19 wsJ7_rangeCheck_23922 := goodIn_r _ [4] rfl (by decide +kernel)
set_option maxRecDepth 20000 in
theorem gJ7_fill_fda19_J7_rangeCheck_23922 : GoodIn wsJ7_fill_fda19 (va_wsS RJ7 13 yJ7_rangeCheck_23922 wsJ7_rangeCheck_23922) := goodIn_app (goodIn_of _ (by decide +kernel)) ggJ7_fill_fda19_J7_rangeCheck_23922
theorem dJ7_fill_fda19_0 : decode cJ7_fill_fda19 0 = .ok (.aload_n 0, 1) := by decide +kernel
theorem dJ7_fill_fda19_1 : decode cJ7_fill_fda19 1 = .ok (.arraylength, 1) := by decide +kernel
theorem dJ7_fill_fda19_2 : decode cJ7_fill_fda19 2 = .ok (.iload_n 1, 1) := by decide +kernel
theorem dJ7_fill_fda19_3 : decode cJ7_fill_fda19 3 = .ok (.iload_n 2, 1) := by decide +kernel
theorem dJ7_fill_fda19_4 : decode cJ7_fill_fda19 4 = .ok (.invokestatic 13, 3) := by decide +kernel
theorem dJ7_fill_fda19_7 : decode cJ7_fill_fda19 7 = .ok (.iload_n 1, 1) := by decide +kernel
theorem dJ7_fill_fda19_8 : decode cJ7_fill_fda19 8 = .ok (.istore 4, 2) := by decide +kernel
theorem dJ7_fill_fda19_10 : decode cJ7_fill_fda19 10 = .ok (.iload 4, 2) := by decide +kernel
theorem dJ7_fill_fda19_12 : decode cJ7_fill_fda19 12 = .ok (.iload_n 2, 1) := by decide +kernel
theorem dJ7_fill_fda19_13 : decode cJ7_fill_fda19 13 = .ok (.if_icmp .ge 14, 3) := by decide +kernel
theorem dJ7_fill_fda19_16 : decode cJ7_fill_fda19 16 = .ok (.aload_n 0, 1) := by decide +kernel
theorem dJ7_fill_fda19_17 : decode cJ7_fill_fda19 17 = .ok (.iload 4, 2) := by decide +kernel
theorem dJ7_fill_fda19_19 : decode cJ7_fill_fda19 19 = .ok (.iload_n 3, 1) := by decide +kernel
theorem dJ7_fill_fda19_20 : decode cJ7_fill_fda19 20 = .ok (.iastore, 1) := by decide +kernel
theorem dJ7_fill_fda19_21 : decode cJ7_fill_fda19 21 = .ok (.iinc 4 1, 3) := by decide +kernel
theorem dJ7_fill_fda19_24 : decode cJ7_fill_fda19 24 = .ok (.goto (-14), 3) := by decide +kernel
theorem dJ7_fill_fda19_27 : decode cJ7_fill_fda19 27 = .ok (.return_, 1) := by decide +kernel
theorem dJ3_checkIndex_8e157_0 : decode cJ3_checkIndex_8e157 0 = .ok (.iload_n 0, 1) := by decide +kernel
theorem dJ3_checkIndex_8e157_1 : decode cJ3_checkIndex_8e157 1 = .ok (.ifCond .lt 8, 3) := by decide +kernel
theorem dJ3_checkIndex_8e157_4 : decode cJ3_checkIndex_8e157 4 = .ok (.iload_n 0, 1) := by decide +kernel
theorem dJ3_checkIndex_8e157_5 : decode cJ3_checkIndex_8e157 5 = .ok (.iload_n 1, 1) := by decide +kernel
theorem dJ3_checkIndex_8e157_6 : decode cJ3_checkIndex_8e157 6 = .ok (.if_icmp .lt 10, 3) := by decide +kernel
theorem dJ3_checkIndex_8e157_9 : decode cJ3_checkIndex_8e157 9 = .ok (.aload_n 2, 1) := by decide +kernel
theorem dJ3_checkIndex_8e157_10 : decode cJ3_checkIndex_8e157 10 = .ok (.iload_n 0, 1) := by decide +kernel
theorem dJ3_checkIndex_8e157_11 : decode cJ3_checkIndex_8e157 11 = .ok (.iload_n 1, 1) := by decide +kernel
theorem dJ3_checkIndex_8e157_12 : decode cJ3_checkIndex_8e157 12 = .ok (.invokestatic 95, 3) := by decide +kernel
theorem dJ3_checkIndex_8e157_15 : decode cJ3_checkIndex_8e157 15 = .ok (.athrow, 1) := by decide +kernel
theorem dJ3_checkIndex_8e157_16 : decode cJ3_checkIndex_8e157 16 = .ok (.iload_n 0, 1) := by decide +kernel
theorem dJ3_checkIndex_8e157_17 : decode cJ3_checkIndex_8e157 17 = .ok (.ireturn, 1) := by decide +kernel
theorem dL_law_0 : decode cL_law 0 = .ok (.new 7, 3) := by decide +kernel
theorem dL_law_3 : decode cL_law 3 = .ok (.dup, 1) := by decide +kernel
theorem dL_law_4 : decode cL_law 4 = .ok (.invokespecial 9, 3) := by decide +kernel
theorem dL_law_7 : decode cL_law 7 = .ok (.astore_n 1, 1) := by decide +kernel
theorem dL_law_8 : decode cL_law 8 = .ok (.new 10, 3) := by decide +kernel
theorem dL_law_11 : decode cL_law 11 = .ok (.dup, 1) := by decide +kernel
theorem dL_law_12 : decode cL_law 12 = .ok (.invokespecial 12, 3) := by decide +kernel
theorem dL_law_15 : decode cL_law 15 = .ok (.astore_n 2, 1) := by decide +kernel
theorem dL_law_16 : decode cL_law 16 = .ok (.iconst 0, 1) := by decide +kernel
theorem dL_law_17 : decode cL_law 17 = .ok (.istore_n 3, 1) := by decide +kernel
theorem dL_law_18 : decode cL_law 18 = .ok (.iload_n 3, 1) := by decide +kernel
theorem dL_law_19 : decode cL_law 19 = .ok (.aload_n 0, 1) := by decide +kernel
theorem dL_law_20 : decode cL_law 20 = .ok (.arraylength, 1) := by decide +kernel
theorem dL_law_21 : decode cL_law 21 = .ok (.bipush 6, 2) := by decide +kernel
theorem dL_law_23 : decode cL_law 23 = .ok (.isub, 1) := by decide +kernel
theorem dL_law_24 : decode cL_law 24 = .ok (.if_icmp .gt 880, 3) := by decide +kernel
theorem dL_law_27 : decode cL_law 27 = .ok (.aload_n 0, 1) := by decide +kernel
theorem dL_law_28 : decode cL_law 28 = .ok (.iload_n 3, 1) := by decide +kernel
theorem dL_law_29 : decode cL_law 29 = .ok (.iaload, 1) := by decide +kernel
theorem dL_law_30 : decode cL_law 30 = .ok (.bipush 31, 2) := by decide +kernel
theorem dL_law_32 : decode cL_law 32 = .ok (.iand, 1) := by decide +kernel
theorem dL_law_33 : decode cL_law 33 = .ok (.tableswitch 865 0 29 #[135, 198, 221, 234, 257, 280, 323, 356, 389, 412, 425, 448, 461, 484, 517, 530, 553, 576, 609, 642, 665, 678, 701, 714, 737, 770, 793, 806, 829, 842], 135) := by decide +kernel
theorem dL_law_168 : decode cL_law 168 = .ok (.aload_n 1, 1) := by decide +kernel
theorem dL_law_169 : decode cL_law 169 = .ok (.aload_n 0, 1) := by decide +kernel
theorem dL_law_170 : decode cL_law 170 = .ok (.iload_n 3, 1) := by decide +kernel
theorem dL_law_171 : decode cL_law 171 = .ok (.iconst 1, 1) := by decide +kernel
theorem dL_law_172 : decode cL_law 172 = .ok (.iadd, 1) := by decide +kernel
theorem dL_law_173 : decode cL_law 173 = .ok (.iaload, 1) := by decide +kernel
theorem dL_law_174 : decode cL_law 174 = .ok (.aload_n 0, 1) := by decide +kernel
theorem dL_law_175 : decode cL_law 175 = .ok (.iload_n 3, 1) := by decide +kernel
theorem dL_law_176 : decode cL_law 176 = .ok (.iconst 2, 1) := by decide +kernel
theorem dL_law_177 : decode cL_law 177 = .ok (.iadd, 1) := by decide +kernel
theorem dL_law_178 : decode cL_law 178 = .ok (.iaload, 1) := by decide +kernel
theorem dL_law_179 : decode cL_law 179 = .ok (.aload_n 0, 1) := by decide +kernel
theorem dL_law_180 : decode cL_law 180 = .ok (.iload_n 3, 1) := by decide +kernel
theorem dL_law_181 : decode cL_law 181 = .ok (.iconst 3, 1) := by decide +kernel
theorem dL_law_182 : decode cL_law 182 = .ok (.iadd, 1) := by decide +kernel
theorem dL_law_183 : decode cL_law 183 = .ok (.iaload, 1) := by decide +kernel
theorem dL_law_184 : decode cL_law 184 = .ok (.aload_n 0, 1) := by decide +kernel
theorem dL_law_185 : decode cL_law 185 = .ok (.iload_n 3, 1) := by decide +kernel
theorem dL_law_186 : decode cL_law 186 = .ok (.iconst 4, 1) := by decide +kernel
theorem dL_law_187 : decode cL_law 187 = .ok (.iadd, 1) := by decide +kernel
theorem dL_law_188 : decode cL_law 188 = .ok (.iaload, 1) := by decide +kernel
theorem dL_law_189 : decode cL_law 189 = .ok (.aload_n 0, 1) := by decide +kernel
theorem dL_law_190 : decode cL_law 190 = .ok (.iload_n 3, 1) := by decide +kernel
theorem dL_law_191 : decode cL_law 191 = .ok (.iconst 5, 1) := by decide +kernel
theorem dL_law_192 : decode cL_law 192 = .ok (.iadd, 1) := by decide +kernel
theorem dL_law_193 : decode cL_law 193 = .ok (.iaload, 1) := by decide +kernel
theorem dL_law_194 : decode cL_law 194 = .ok (.invokevirtual 13, 3) := by decide +kernel
theorem dL_law_197 : decode cL_law 197 = .ok (.pop, 1) := by decide +kernel
theorem dL_law_198 : decode cL_law 198 = .ok (.aload_n 2, 1) := by decide +kernel
theorem dL_law_199 : decode cL_law 199 = .ok (.aload_n 0, 1) := by decide +kernel
theorem dL_law_200 : decode cL_law 200 = .ok (.iload_n 3, 1) := by decide +kernel
theorem dL_law_201 : decode cL_law 201 = .ok (.iconst 1, 1) := by decide +kernel
theorem dL_law_202 : decode cL_law 202 = .ok (.iadd, 1) := by decide +kernel
theorem dL_law_203 : decode cL_law 203 = .ok (.iaload, 1) := by decide +kernel
theorem dL_law_204 : decode cL_law 204 = .ok (.aload_n 0, 1) := by decide +kernel
theorem dL_law_205 : decode cL_law 205 = .ok (.iload_n 3, 1) := by decide +kernel
theorem dL_law_206 : decode cL_law 206 = .ok (.iconst 2, 1) := by decide +kernel
theorem dL_law_207 : decode cL_law 207 = .ok (.iadd, 1) := by decide +kernel
theorem dL_law_208 : decode cL_law 208 = .ok (.iaload, 1) := by decide +kernel
theorem dL_law_209 : decode cL_law 209 = .ok (.aload_n 0, 1) := by decide +kernel
theorem dL_law_210 : decode cL_law 210 = .ok (.iload_n 3, 1) := by decide +kernel
theorem dL_law_211 : decode cL_law 211 = .ok (.iconst 3, 1) := by decide +kernel
theorem dL_law_212 : decode cL_law 212 = .ok (.iadd, 1) := by decide +kernel
theorem dL_law_213 : decode cL_law 213 = .ok (.iaload, 1) := by decide +kernel
theorem dL_law_214 : decode cL_law 214 = .ok (.aload_n 0, 1) := by decide +kernel
theorem dL_law_215 : decode cL_law 215 = .ok (.iload_n 3, 1) := by decide +kernel
theorem dL_law_216 : decode cL_law 216 = .ok (.iconst 4, 1) := by decide +kernel
theorem dL_law_217 : decode cL_law 217 = .ok (.iadd, 1) := by decide +kernel
theorem dL_law_218 : decode cL_law 218 = .ok (.iaload, 1) := by decide +kernel
theorem dL_law_219 : decode cL_law 219 = .ok (.aload_n 0, 1) := by decide +kernel
theorem dL_law_220 : decode cL_law 220 = .ok (.iload_n 3, 1) := by decide +kernel
theorem dL_law_221 : decode cL_law 221 = .ok (.iconst 5, 1) := by decide +kernel
theorem dL_law_222 : decode cL_law 222 = .ok (.iadd, 1) := by decide +kernel
theorem dL_law_223 : decode cL_law 223 = .ok (.iaload, 1) := by decide +kernel
theorem dL_law_224 : decode cL_law 224 = .ok (.invokevirtual 17, 3) := by decide +kernel
theorem dL_law_227 : decode cL_law 227 = .ok (.pop, 1) := by decide +kernel
theorem dL_law_228 : decode cL_law 228 = .ok (.goto 670, 3) := by decide +kernel
theorem dL_law_231 : decode cL_law 231 = .ok (.aload_n 1, 1) := by decide +kernel
theorem dL_law_232 : decode cL_law 232 = .ok (.aload_n 0, 1) := by decide +kernel
theorem dL_law_233 : decode cL_law 233 = .ok (.iload_n 3, 1) := by decide +kernel
theorem dL_law_234 : decode cL_law 234 = .ok (.iconst 1, 1) := by decide +kernel
theorem dL_law_235 : decode cL_law 235 = .ok (.iadd, 1) := by decide +kernel
theorem dL_law_236 : decode cL_law 236 = .ok (.iaload, 1) := by decide +kernel
theorem dL_law_237 : decode cL_law 237 = .ok (.invokevirtual 18, 3) := by decide +kernel
theorem dL_law_240 : decode cL_law 240 = .ok (.pop, 1) := by decide +kernel
theorem dL_law_241 : decode cL_law 241 = .ok (.aload_n 2, 1) := by decide +kernel
theorem dL_law_242 : decode cL_law 242 = .ok (.aload_n 0, 1) := by decide +kernel
theorem dL_law_243 : decode cL_law 243 = .ok (.iload_n 3, 1) := by decide +kernel
theorem dL_law_244 : decode cL_law 244 = .ok (.iconst 1, 1) := by decide +kernel
theorem dL_law_245 : decode cL_law 245 = .ok (.iadd, 1) := by decide +kernel
theorem dL_law_246 : decode cL_law 246 = .ok (.iaload, 1) := by decide +kernel
theorem dL_law_247 : decode cL_law 247 = .ok (.invokevirtual 22, 3) := by decide +kernel
theorem dL_law_250 : decode cL_law 250 = .ok (.pop, 1) := by decide +kernel
theorem dL_law_251 : decode cL_law 251 = .ok (.goto 647, 3) := by decide +kernel
theorem dL_law_254 : decode cL_law 254 = .ok (.aload_n 1, 1) := by decide +kernel
theorem dL_law_255 : decode cL_law 255 = .ok (.invokevirtual 23, 3) := by decide +kernel
theorem dL_law_258 : decode cL_law 258 = .ok (.pop, 1) := by decide +kernel
theorem dL_law_259 : decode cL_law 259 = .ok (.aload_n 2, 1) := by decide +kernel
theorem dL_law_260 : decode cL_law 260 = .ok (.invokevirtual 27, 3) := by decide +kernel
theorem dL_law_263 : decode cL_law 263 = .ok (.pop, 1) := by decide +kernel
theorem dL_law_264 : decode cL_law 264 = .ok (.goto 634, 3) := by decide +kernel
theorem dL_law_267 : decode cL_law 267 = .ok (.aload_n 1, 1) := by decide +kernel
theorem dL_law_268 : decode cL_law 268 = .ok (.aload_n 0, 1) := by decide +kernel
theorem dL_law_269 : decode cL_law 269 = .ok (.iload_n 3, 1) := by decide +kernel
theorem dL_law_270 : decode cL_law 270 = .ok (.iconst 1, 1) := by decide +kernel
theorem dL_law_271 : decode cL_law 271 = .ok (.iadd, 1) := by decide +kernel
theorem dL_law_272 : decode cL_law 272 = .ok (.iaload, 1) := by decide +kernel
theorem dL_law_273 : decode cL_law 273 = .ok (.invokevirtual 28, 3) := by decide +kernel
theorem dL_law_276 : decode cL_law 276 = .ok (.pop, 1) := by decide +kernel
theorem dL_law_277 : decode cL_law 277 = .ok (.aload_n 2, 1) := by decide +kernel
theorem dL_law_278 : decode cL_law 278 = .ok (.aload_n 0, 1) := by decide +kernel
theorem dL_law_279 : decode cL_law 279 = .ok (.iload_n 3, 1) := by decide +kernel
theorem dL_law_280 : decode cL_law 280 = .ok (.iconst 1, 1) := by decide +kernel
theorem dL_law_281 : decode cL_law 281 = .ok (.iadd, 1) := by decide +kernel
theorem dL_law_282 : decode cL_law 282 = .ok (.iaload, 1) := by decide +kernel
theorem dL_law_283 : decode cL_law 283 = .ok (.invokevirtual 32, 3) := by decide +kernel
theorem dL_law_286 : decode cL_law 286 = .ok (.pop, 1) := by decide +kernel
theorem dL_law_287 : decode cL_law 287 = .ok (.goto 611, 3) := by decide +kernel
theorem dL_law_290 : decode cL_law 290 = .ok (.aload_n 1, 1) := by decide +kernel
theorem dL_law_291 : decode cL_law 291 = .ok (.aload_n 0, 1) := by decide +kernel
theorem dL_law_292 : decode cL_law 292 = .ok (.iload_n 3, 1) := by decide +kernel
theorem dL_law_293 : decode cL_law 293 = .ok (.iconst 1, 1) := by decide +kernel
theorem dL_law_294 : decode cL_law 294 = .ok (.iadd, 1) := by decide +kernel
theorem dL_law_295 : decode cL_law 295 = .ok (.iaload, 1) := by decide +kernel
theorem dL_law_296 : decode cL_law 296 = .ok (.invokevirtual 33, 3) := by decide +kernel
theorem dL_law_299 : decode cL_law 299 = .ok (.pop, 1) := by decide +kernel
theorem dL_law_300 : decode cL_law 300 = .ok (.aload_n 2, 1) := by decide +kernel
theorem dL_law_301 : decode cL_law 301 = .ok (.aload_n 0, 1) := by decide +kernel
theorem dL_law_302 : decode cL_law 302 = .ok (.iload_n 3, 1) := by decide +kernel
theorem dL_law_303 : decode cL_law 303 = .ok (.iconst 1, 1) := by decide +kernel
theorem dL_law_304 : decode cL_law 304 = .ok (.iadd, 1) := by decide +kernel
theorem dL_law_305 : decode cL_law 305 = .ok (.iaload, 1) := by decide +kernel
theorem dL_law_306 : decode cL_law 306 = .ok (.invokevirtual 36, 3) := by decide +kernel
theorem dL_law_309 : decode cL_law 309 = .ok (.pop, 1) := by decide +kernel
theorem dL_law_310 : decode cL_law 310 = .ok (.goto 588, 3) := by decide +kernel
theorem dL_law_313 : decode cL_law 313 = .ok (.aload_n 1, 1) := by decide +kernel
theorem dL_law_314 : decode cL_law 314 = .ok (.aload_n 0, 1) := by decide +kernel
theorem dL_law_315 : decode cL_law 315 = .ok (.iload_n 3, 1) := by decide +kernel
theorem dL_law_316 : decode cL_law 316 = .ok (.iconst 1, 1) := by decide +kernel
theorem dL_law_317 : decode cL_law 317 = .ok (.iadd, 1) := by decide +kernel
theorem dL_law_318 : decode cL_law 318 = .ok (.iaload, 1) := by decide +kernel
theorem dL_law_319 : decode cL_law 319 = .ok (.aload_n 0, 1) := by decide +kernel
theorem dL_law_320 : decode cL_law 320 = .ok (.iload_n 3, 1) := by decide +kernel
theorem dL_law_321 : decode cL_law 321 = .ok (.iconst 2, 1) := by decide +kernel
theorem dL_law_322 : decode cL_law 322 = .ok (.iadd, 1) := by decide +kernel
theorem dL_law_323 : decode cL_law 323 = .ok (.iaload, 1) := by decide +kernel
theorem dL_law_324 : decode cL_law 324 = .ok (.aload_n 0, 1) := by decide +kernel
theorem dL_law_325 : decode cL_law 325 = .ok (.iload_n 3, 1) := by decide +kernel
theorem dL_law_326 : decode cL_law 326 = .ok (.iconst 3, 1) := by decide +kernel
theorem dL_law_327 : decode cL_law 327 = .ok (.iadd, 1) := by decide +kernel
theorem dL_law_328 : decode cL_law 328 = .ok (.iaload, 1) := by decide +kernel
theorem dL_law_329 : decode cL_law 329 = .ok (.invokevirtual 37, 3) := by decide +kernel
theorem dL_law_332 : decode cL_law 332 = .ok (.pop, 1) := by decide +kernel
theorem dL_law_333 : decode cL_law 333 = .ok (.aload_n 2, 1) := by decide +kernel
theorem dL_law_334 : decode cL_law 334 = .ok (.aload_n 0, 1) := by decide +kernel
theorem dL_law_335 : decode cL_law 335 = .ok (.iload_n 3, 1) := by decide +kernel
theorem dL_law_336 : decode cL_law 336 = .ok (.iconst 1, 1) := by decide +kernel
theorem dL_law_337 : decode cL_law 337 = .ok (.iadd, 1) := by decide +kernel
theorem dL_law_338 : decode cL_law 338 = .ok (.iaload, 1) := by decide +kernel
theorem dL_law_339 : decode cL_law 339 = .ok (.aload_n 0, 1) := by decide +kernel
theorem dL_law_340 : decode cL_law 340 = .ok (.iload_n 3, 1) := by decide +kernel
theorem dL_law_341 : decode cL_law 341 = .ok (.iconst 2, 1) := by decide +kernel
theorem dL_law_342 : decode cL_law 342 = .ok (.iadd, 1) := by decide +kernel
theorem dL_law_343 : decode cL_law 343 = .ok (.iaload, 1) := by decide +kernel
theorem dL_law_344 : decode cL_law 344 = .ok (.aload_n 0, 1) := by decide +kernel
theorem dL_law_345 : decode cL_law 345 = .ok (.iload_n 3, 1) := by decide +kernel
theorem dL_law_346 : decode cL_law 346 = .ok (.iconst 3, 1) := by decide +kernel
theorem dL_law_347 : decode cL_law 347 = .ok (.iadd, 1) := by decide +kernel
theorem dL_law_348 : decode cL_law 348 = .ok (.iaload, 1) := by decide +kernel
theorem dL_law_349 : decode cL_law 349 = .ok (.invokevirtual 41, 3) := by decide +kernel
theorem dL_law_352 : decode cL_law 352 = .ok (.pop, 1) := by decide +kernel
theorem dL_law_353 : decode cL_law 353 = .ok (.goto 545, 3) := by decide +kernel
theorem dL_law_356 : decode cL_law 356 = .ok (.aload_n 1, 1) := by decide +kernel
theorem dL_law_357 : decode cL_law 357 = .ok (.aload_n 0, 1) := by decide +kernel
theorem dL_law_358 : decode cL_law 358 = .ok (.iload_n 3, 1) := by decide +kernel
theorem dL_law_359 : decode cL_law 359 = .ok (.iconst 1, 1) := by decide +kernel
theorem dL_law_360 : decode cL_law 360 = .ok (.iadd, 1) := by decide +kernel
theorem dL_law_361 : decode cL_law 361 = .ok (.iaload, 1) := by decide +kernel
theorem dL_law_362 : decode cL_law 362 = .ok (.aload_n 0, 1) := by decide +kernel
theorem dL_law_363 : decode cL_law 363 = .ok (.iload_n 3, 1) := by decide +kernel
theorem dL_law_364 : decode cL_law 364 = .ok (.iconst 2, 1) := by decide +kernel
theorem dL_law_365 : decode cL_law 365 = .ok (.iadd, 1) := by decide +kernel
theorem dL_law_366 : decode cL_law 366 = .ok (.iaload, 1) := by decide +kernel
theorem dL_law_367 : decode cL_law 367 = .ok (.invokevirtual 42, 3) := by decide +kernel
theorem dL_law_370 : decode cL_law 370 = .ok (.pop, 1) := by decide +kernel
theorem dL_law_371 : decode cL_law 371 = .ok (.aload_n 2, 1) := by decide +kernel
theorem dL_law_372 : decode cL_law 372 = .ok (.aload_n 0, 1) := by decide +kernel
theorem dL_law_373 : decode cL_law 373 = .ok (.iload_n 3, 1) := by decide +kernel
theorem dL_law_374 : decode cL_law 374 = .ok (.iconst 1, 1) := by decide +kernel
theorem dL_law_375 : decode cL_law 375 = .ok (.iadd, 1) := by decide +kernel
theorem dL_law_376 : decode cL_law 376 = .ok (.iaload, 1) := by decide +kernel
theorem dL_law_377 : decode cL_law 377 = .ok (.aload_n 0, 1) := by decide +kernel
theorem dL_law_378 : decode cL_law 378 = .ok (.iload_n 3, 1) := by decide +kernel
theorem dL_law_379 : decode cL_law 379 = .ok (.iconst 2, 1) := by decide +kernel
theorem dL_law_380 : decode cL_law 380 = .ok (.iadd, 1) := by decide +kernel
theorem dL_law_381 : decode cL_law 381 = .ok (.iaload, 1) := by decide +kernel
theorem dL_law_382 : decode cL_law 382 = .ok (.invokevirtual 46, 3) := by decide +kernel
theorem dL_law_385 : decode cL_law 385 = .ok (.pop, 1) := by decide +kernel
theorem dL_law_386 : decode cL_law 386 = .ok (.goto 512, 3) := by decide +kernel
theorem dL_law_389 : decode cL_law 389 = .ok (.aload_n 1, 1) := by decide +kernel
theorem dL_law_390 : decode cL_law 390 = .ok (.aload_n 0, 1) := by decide +kernel
theorem dL_law_391 : decode cL_law 391 = .ok (.iload_n 3, 1) := by decide +kernel
theorem dL_law_392 : decode cL_law 392 = .ok (.iconst 1, 1) := by decide +kernel
theorem dL_law_393 : decode cL_law 393 = .ok (.iadd, 1) := by decide +kernel
theorem dL_law_394 : decode cL_law 394 = .ok (.iaload, 1) := by decide +kernel
theorem dL_law_395 : decode cL_law 395 = .ok (.aload_n 0, 1) := by decide +kernel
theorem dL_law_396 : decode cL_law 396 = .ok (.iload_n 3, 1) := by decide +kernel
theorem dL_law_397 : decode cL_law 397 = .ok (.iconst 2, 1) := by decide +kernel
theorem dL_law_398 : decode cL_law 398 = .ok (.iadd, 1) := by decide +kernel
theorem dL_law_399 : decode cL_law 399 = .ok (.iaload, 1) := by decide +kernel
theorem dL_law_400 : decode cL_law 400 = .ok (.invokevirtual 47, 3) := by decide +kernel
theorem dL_law_403 : decode cL_law 403 = .ok (.pop, 1) := by decide +kernel
theorem dL_law_404 : decode cL_law 404 = .ok (.aload_n 2, 1) := by decide +kernel
theorem dL_law_405 : decode cL_law 405 = .ok (.aload_n 0, 1) := by decide +kernel
theorem dL_law_406 : decode cL_law 406 = .ok (.iload_n 3, 1) := by decide +kernel
theorem dL_law_407 : decode cL_law 407 = .ok (.iconst 1, 1) := by decide +kernel
theorem dL_law_408 : decode cL_law 408 = .ok (.iadd, 1) := by decide +kernel
theorem dL_law_409 : decode cL_law 409 = .ok (.iaload, 1) := by decide +kernel
theorem dL_law_410 : decode cL_law 410 = .ok (.aload_n 0, 1) := by decide +kernel
theorem dL_law_411 : decode cL_law 411 = .ok (.iload_n 3, 1) := by decide +kernel
theorem dL_law_412 : decode cL_law 412 = .ok (.iconst 2, 1) := by decide +kernel
theorem dL_law_413 : decode cL_law 413 = .ok (.iadd, 1) := by decide +kernel
theorem dL_law_414 : decode cL_law 414 = .ok (.iaload, 1) := by decide +kernel
theorem dL_law_415 : decode cL_law 415 = .ok (.invokevirtual 50, 3) := by decide +kernel
theorem dL_law_418 : decode cL_law 418 = .ok (.pop, 1) := by decide +kernel
theorem dL_law_419 : decode cL_law 419 = .ok (.goto 479, 3) := by decide +kernel
theorem dL_law_422 : decode cL_law 422 = .ok (.aload_n 1, 1) := by decide +kernel
theorem dL_law_423 : decode cL_law 423 = .ok (.aload_n 0, 1) := by decide +kernel
theorem dL_law_424 : decode cL_law 424 = .ok (.iload_n 3, 1) := by decide +kernel
theorem dL_law_425 : decode cL_law 425 = .ok (.iconst 1, 1) := by decide +kernel
theorem dL_law_426 : decode cL_law 426 = .ok (.iadd, 1) := by decide +kernel
theorem dL_law_427 : decode cL_law 427 = .ok (.iaload, 1) := by decide +kernel
theorem dL_law_428 : decode cL_law 428 = .ok (.invokevirtual 51, 3) := by decide +kernel
theorem dL_law_431 : decode cL_law 431 = .ok (.pop, 1) := by decide +kernel
theorem dL_law_432 : decode cL_law 432 = .ok (.aload_n 2, 1) := by decide +kernel
theorem dL_law_433 : decode cL_law 433 = .ok (.aload_n 0, 1) := by decide +kernel
theorem dL_law_434 : decode cL_law 434 = .ok (.iload_n 3, 1) := by decide +kernel
theorem dL_law_435 : decode cL_law 435 = .ok (.iconst 1, 1) := by decide +kernel
theorem dL_law_436 : decode cL_law 436 = .ok (.iadd, 1) := by decide +kernel
theorem dL_law_437 : decode cL_law 437 = .ok (.iaload, 1) := by decide +kernel
theorem dL_law_438 : decode cL_law 438 = .ok (.invokevirtual 54, 3) := by decide +kernel
theorem dL_law_441 : decode cL_law 441 = .ok (.pop, 1) := by decide +kernel
theorem dL_law_442 : decode cL_law 442 = .ok (.goto 456, 3) := by decide +kernel
theorem dL_law_445 : decode cL_law 445 = .ok (.aload_n 1, 1) := by decide +kernel
theorem dL_law_446 : decode cL_law 446 = .ok (.invokevirtual 55, 3) := by decide +kernel
theorem dL_law_449 : decode cL_law 449 = .ok (.pop, 1) := by decide +kernel
theorem dL_law_450 : decode cL_law 450 = .ok (.aload_n 2, 1) := by decide +kernel
theorem dL_law_451 : decode cL_law 451 = .ok (.invokevirtual 58, 3) := by decide +kernel
theorem dL_law_454 : decode cL_law 454 = .ok (.pop, 1) := by decide +kernel
theorem dL_law_455 : decode cL_law 455 = .ok (.goto 443, 3) := by decide +kernel
theorem dL_law_458 : decode cL_law 458 = .ok (.aload_n 1, 1) := by decide +kernel
theorem dL_law_459 : decode cL_law 459 = .ok (.aload_n 0, 1) := by decide +kernel
theorem dL_law_460 : decode cL_law 460 = .ok (.iload_n 3, 1) := by decide +kernel
theorem dL_law_461 : decode cL_law 461 = .ok (.iconst 1, 1) := by decide +kernel
theorem dL_law_462 : decode cL_law 462 = .ok (.iadd, 1) := by decide +kernel
theorem dL_law_463 : decode cL_law 463 = .ok (.iaload, 1) := by decide +kernel
theorem dL_law_464 : decode cL_law 464 = .ok (.invokevirtual 59, 3) := by decide +kernel
theorem dL_law_467 : decode cL_law 467 = .ok (.pop, 1) := by decide +kernel
theorem dL_law_468 : decode cL_law 468 = .ok (.aload_n 2, 1) := by decide +kernel
theorem dL_law_469 : decode cL_law 469 = .ok (.aload_n 0, 1) := by decide +kernel
theorem dL_law_470 : decode cL_law 470 = .ok (.iload_n 3, 1) := by decide +kernel
theorem dL_law_471 : decode cL_law 471 = .ok (.iconst 1, 1) := by decide +kernel
theorem dL_law_472 : decode cL_law 472 = .ok (.iadd, 1) := by decide +kernel
theorem dL_law_473 : decode cL_law 473 = .ok (.iaload, 1) := by decide +kernel
theorem dL_law_474 : decode cL_law 474 = .ok (.invokevirtual 62, 3) := by decide +kernel
theorem dL_law_477 : decode cL_law 477 = .ok (.pop, 1) := by decide +kernel
theorem dL_law_478 : decode cL_law 478 = .ok (.goto 420, 3) := by decide +kernel
theorem dL_law_481 : decode cL_law 481 = .ok (.aload_n 1, 1) := by decide +kernel
theorem dL_law_482 : decode cL_law 482 = .ok (.invokevirtual 63, 3) := by decide +kernel
theorem dL_law_485 : decode cL_law 485 = .ok (.pop, 1) := by decide +kernel
theorem dL_law_486 : decode cL_law 486 = .ok (.aload_n 2, 1) := by decide +kernel
theorem dL_law_487 : decode cL_law 487 = .ok (.invokevirtual 67, 3) := by decide +kernel
theorem dL_law_490 : decode cL_law 490 = .ok (.pop, 1) := by decide +kernel
theorem dL_law_491 : decode cL_law 491 = .ok (.goto 407, 3) := by decide +kernel
theorem dL_law_494 : decode cL_law 494 = .ok (.aload_n 1, 1) := by decide +kernel
theorem dL_law_495 : decode cL_law 495 = .ok (.aload_n 0, 1) := by decide +kernel
theorem dL_law_496 : decode cL_law 496 = .ok (.iload_n 3, 1) := by decide +kernel
theorem dL_law_497 : decode cL_law 497 = .ok (.iconst 1, 1) := by decide +kernel
theorem dL_law_498 : decode cL_law 498 = .ok (.iadd, 1) := by decide +kernel
theorem dL_law_499 : decode cL_law 499 = .ok (.iaload, 1) := by decide +kernel
theorem dL_law_500 : decode cL_law 500 = .ok (.invokevirtual 68, 3) := by decide +kernel
theorem dL_law_503 : decode cL_law 503 = .ok (.pop, 1) := by decide +kernel
theorem dL_law_504 : decode cL_law 504 = .ok (.aload_n 2, 1) := by decide +kernel
theorem dL_law_505 : decode cL_law 505 = .ok (.aload_n 0, 1) := by decide +kernel
theorem dL_law_506 : decode cL_law 506 = .ok (.iload_n 3, 1) := by decide +kernel
theorem dL_law_507 : decode cL_law 507 = .ok (.iconst 1, 1) := by decide +kernel
theorem dL_law_508 : decode cL_law 508 = .ok (.iadd, 1) := by decide +kernel
theorem dL_law_509 : decode cL_law 509 = .ok (.iaload, 1) := by decide +kernel
theorem dL_law_510 : decode cL_law 510 = .ok (.invokevirtual 71, 3) := by decide +kernel
theorem dL_law_513 : decode cL_law 513 = .ok (.pop, 1) := by decide +kernel
theorem dL_law_514 : decode cL_law 514 = .ok (.goto 384, 3) := by decide +kernel
theorem dL_law_517 : decode cL_law 517 = .ok (.aload_n 1, 1) := by decide +kernel
theorem dL_law_518 : decode cL_law 518 = .ok (.aload_n 0, 1) := by decide +kernel
theorem dL_law_519 : decode cL_law 519 = .ok (.iload_n 3, 1) := by decide +kernel
theorem dL_law_520 : decode cL_law 520 = .ok (.iconst 1, 1) := by decide +kernel
theorem dL_law_521 : decode cL_law 521 = .ok (.iadd, 1) := by decide +kernel
theorem dL_law_522 : decode cL_law 522 = .ok (.iaload, 1) := by decide +kernel
theorem dL_law_523 : decode cL_law 523 = .ok (.aload_n 0, 1) := by decide +kernel
theorem dL_law_524 : decode cL_law 524 = .ok (.iload_n 3, 1) := by decide +kernel
theorem dL_law_525 : decode cL_law 525 = .ok (.iconst 2, 1) := by decide +kernel
theorem dL_law_526 : decode cL_law 526 = .ok (.iadd, 1) := by decide +kernel
theorem dL_law_527 : decode cL_law 527 = .ok (.iaload, 1) := by decide +kernel
theorem dL_law_528 : decode cL_law 528 = .ok (.invokevirtual 72, 3) := by decide +kernel
theorem dL_law_531 : decode cL_law 531 = .ok (.pop, 1) := by decide +kernel
theorem dL_law_532 : decode cL_law 532 = .ok (.aload_n 2, 1) := by decide +kernel
theorem dL_law_533 : decode cL_law 533 = .ok (.aload_n 0, 1) := by decide +kernel
theorem dL_law_534 : decode cL_law 534 = .ok (.iload_n 3, 1) := by decide +kernel
theorem dL_law_535 : decode cL_law 535 = .ok (.iconst 1, 1) := by decide +kernel
theorem dL_law_536 : decode cL_law 536 = .ok (.iadd, 1) := by decide +kernel
theorem dL_law_537 : decode cL_law 537 = .ok (.iaload, 1) := by decide +kernel
theorem dL_law_538 : decode cL_law 538 = .ok (.aload_n 0, 1) := by decide +kernel
theorem dL_law_539 : decode cL_law 539 = .ok (.iload_n 3, 1) := by decide +kernel
theorem dL_law_540 : decode cL_law 540 = .ok (.iconst 2, 1) := by decide +kernel
theorem dL_law_541 : decode cL_law 541 = .ok (.iadd, 1) := by decide +kernel
theorem dL_law_542 : decode cL_law 542 = .ok (.iaload, 1) := by decide +kernel
theorem dL_law_543 : decode cL_law 543 = .ok (.invokevirtual 75, 3) := by decide +kernel
theorem dL_law_546 : decode cL_law 546 = .ok (.pop, 1) := by decide +kernel
theorem dL_law_547 : decode cL_law 547 = .ok (.goto 351, 3) := by decide +kernel
theorem dL_law_550 : decode cL_law 550 = .ok (.aload_n 1, 1) := by decide +kernel
theorem dL_law_551 : decode cL_law 551 = .ok (.invokevirtual 76, 3) := by decide +kernel
theorem dL_law_554 : decode cL_law 554 = .ok (.pop, 1) := by decide +kernel
theorem dL_law_555 : decode cL_law 555 = .ok (.aload_n 2, 1) := by decide +kernel
theorem dL_law_556 : decode cL_law 556 = .ok (.invokevirtual 79, 3) := by decide +kernel
theorem dL_law_559 : decode cL_law 559 = .ok (.pop, 1) := by decide +kernel
theorem dL_law_560 : decode cL_law 560 = .ok (.goto 338, 3) := by decide +kernel
theorem dL_law_563 : decode cL_law 563 = .ok (.aload_n 1, 1) := by decide +kernel
theorem dL_law_564 : decode cL_law 564 = .ok (.aload_n 0, 1) := by decide +kernel
theorem dL_law_565 : decode cL_law 565 = .ok (.iload_n 3, 1) := by decide +kernel
theorem dL_law_566 : decode cL_law 566 = .ok (.iconst 1, 1) := by decide +kernel
theorem dL_law_567 : decode cL_law 567 = .ok (.iadd, 1) := by decide +kernel
theorem dL_law_568 : decode cL_law 568 = .ok (.iaload, 1) := by decide +kernel
theorem dL_law_569 : decode cL_law 569 = .ok (.invokevirtual 80, 3) := by decide +kernel
theorem dL_law_572 : decode cL_law 572 = .ok (.pop, 1) := by decide +kernel
theorem dL_law_573 : decode cL_law 573 = .ok (.aload_n 2, 1) := by decide +kernel
theorem dL_law_574 : decode cL_law 574 = .ok (.aload_n 0, 1) := by decide +kernel
theorem dL_law_575 : decode cL_law 575 = .ok (.iload_n 3, 1) := by decide +kernel
theorem dL_law_576 : decode cL_law 576 = .ok (.iconst 1, 1) := by decide +kernel
theorem dL_law_577 : decode cL_law 577 = .ok (.iadd, 1) := by decide +kernel
theorem dL_law_578 : decode cL_law 578 = .ok (.iaload, 1) := by decide +kernel
theorem dL_law_579 : decode cL_law 579 = .ok (.invokevirtual 83, 3) := by decide +kernel
theorem dL_law_582 : decode cL_law 582 = .ok (.pop, 1) := by decide +kernel
theorem dL_law_583 : decode cL_law 583 = .ok (.goto 315, 3) := by decide +kernel
theorem dL_law_586 : decode cL_law 586 = .ok (.aload_n 1, 1) := by decide +kernel
theorem dL_law_587 : decode cL_law 587 = .ok (.aload_n 0, 1) := by decide +kernel
theorem dL_law_588 : decode cL_law 588 = .ok (.iload_n 3, 1) := by decide +kernel
theorem dL_law_589 : decode cL_law 589 = .ok (.iconst 1, 1) := by decide +kernel
theorem dL_law_590 : decode cL_law 590 = .ok (.iadd, 1) := by decide +kernel
theorem dL_law_591 : decode cL_law 591 = .ok (.iaload, 1) := by decide +kernel
theorem dL_law_592 : decode cL_law 592 = .ok (.invokevirtual 84, 3) := by decide +kernel
theorem dL_law_595 : decode cL_law 595 = .ok (.pop, 1) := by decide +kernel
theorem dL_law_596 : decode cL_law 596 = .ok (.aload_n 2, 1) := by decide +kernel
theorem dL_law_597 : decode cL_law 597 = .ok (.aload_n 0, 1) := by decide +kernel
theorem dL_law_598 : decode cL_law 598 = .ok (.iload_n 3, 1) := by decide +kernel
theorem dL_law_599 : decode cL_law 599 = .ok (.iconst 1, 1) := by decide +kernel
theorem dL_law_600 : decode cL_law 600 = .ok (.iadd, 1) := by decide +kernel
theorem dL_law_601 : decode cL_law 601 = .ok (.iaload, 1) := by decide +kernel
theorem dL_law_602 : decode cL_law 602 = .ok (.invokevirtual 87, 3) := by decide +kernel
theorem dL_law_605 : decode cL_law 605 = .ok (.pop, 1) := by decide +kernel
theorem dL_law_606 : decode cL_law 606 = .ok (.goto 292, 3) := by decide +kernel
theorem dL_law_609 : decode cL_law 609 = .ok (.aload_n 1, 1) := by decide +kernel
theorem dL_law_610 : decode cL_law 610 = .ok (.aload_n 0, 1) := by decide +kernel
theorem dL_law_611 : decode cL_law 611 = .ok (.iload_n 3, 1) := by decide +kernel
theorem dL_law_612 : decode cL_law 612 = .ok (.iconst 1, 1) := by decide +kernel
theorem dL_law_613 : decode cL_law 613 = .ok (.iadd, 1) := by decide +kernel
theorem dL_law_614 : decode cL_law 614 = .ok (.iaload, 1) := by decide +kernel
theorem dL_law_615 : decode cL_law 615 = .ok (.aload_n 0, 1) := by decide +kernel
theorem dL_law_616 : decode cL_law 616 = .ok (.iload_n 3, 1) := by decide +kernel
theorem dL_law_617 : decode cL_law 617 = .ok (.iconst 2, 1) := by decide +kernel
theorem dL_law_618 : decode cL_law 618 = .ok (.iadd, 1) := by decide +kernel
theorem dL_law_619 : decode cL_law 619 = .ok (.iaload, 1) := by decide +kernel
theorem dL_law_620 : decode cL_law 620 = .ok (.invokevirtual 88, 3) := by decide +kernel
theorem dL_law_623 : decode cL_law 623 = .ok (.pop, 1) := by decide +kernel
theorem dL_law_624 : decode cL_law 624 = .ok (.aload_n 2, 1) := by decide +kernel
theorem dL_law_625 : decode cL_law 625 = .ok (.aload_n 0, 1) := by decide +kernel
theorem dL_law_626 : decode cL_law 626 = .ok (.iload_n 3, 1) := by decide +kernel
theorem dL_law_627 : decode cL_law 627 = .ok (.iconst 1, 1) := by decide +kernel
theorem dL_law_628 : decode cL_law 628 = .ok (.iadd, 1) := by decide +kernel
theorem dL_law_629 : decode cL_law 629 = .ok (.iaload, 1) := by decide +kernel
theorem dL_law_630 : decode cL_law 630 = .ok (.aload_n 0, 1) := by decide +kernel
theorem dL_law_631 : decode cL_law 631 = .ok (.iload_n 3, 1) := by decide +kernel
theorem dL_law_632 : decode cL_law 632 = .ok (.iconst 2, 1) := by decide +kernel
theorem dL_law_633 : decode cL_law 633 = .ok (.iadd, 1) := by decide +kernel
theorem dL_law_634 : decode cL_law 634 = .ok (.iaload, 1) := by decide +kernel
theorem dL_law_635 : decode cL_law 635 = .ok (.invokevirtual 91, 3) := by decide +kernel
theorem dL_law_638 : decode cL_law 638 = .ok (.pop, 1) := by decide +kernel
theorem dL_law_639 : decode cL_law 639 = .ok (.goto 259, 3) := by decide +kernel
theorem dL_law_642 : decode cL_law 642 = .ok (.aload_n 1, 1) := by decide +kernel
theorem dL_law_643 : decode cL_law 643 = .ok (.aload_n 0, 1) := by decide +kernel
theorem dL_law_644 : decode cL_law 644 = .ok (.iload_n 3, 1) := by decide +kernel
theorem dL_law_645 : decode cL_law 645 = .ok (.iconst 1, 1) := by decide +kernel
theorem dL_law_646 : decode cL_law 646 = .ok (.iadd, 1) := by decide +kernel
theorem dL_law_647 : decode cL_law 647 = .ok (.iaload, 1) := by decide +kernel
theorem dL_law_648 : decode cL_law 648 = .ok (.aload_n 0, 1) := by decide +kernel
theorem dL_law_649 : decode cL_law 649 = .ok (.iload_n 3, 1) := by decide +kernel
theorem dL_law_650 : decode cL_law 650 = .ok (.iconst 2, 1) := by decide +kernel
theorem dL_law_651 : decode cL_law 651 = .ok (.iadd, 1) := by decide +kernel
theorem dL_law_652 : decode cL_law 652 = .ok (.iaload, 1) := by decide +kernel
theorem dL_law_653 : decode cL_law 653 = .ok (.invokevirtual 92, 3) := by decide +kernel
theorem dL_law_656 : decode cL_law 656 = .ok (.pop, 1) := by decide +kernel
theorem dL_law_657 : decode cL_law 657 = .ok (.aload_n 2, 1) := by decide +kernel
theorem dL_law_658 : decode cL_law 658 = .ok (.aload_n 0, 1) := by decide +kernel
theorem dL_law_659 : decode cL_law 659 = .ok (.iload_n 3, 1) := by decide +kernel
theorem dL_law_660 : decode cL_law 660 = .ok (.iconst 1, 1) := by decide +kernel
theorem dL_law_661 : decode cL_law 661 = .ok (.iadd, 1) := by decide +kernel
theorem dL_law_662 : decode cL_law 662 = .ok (.iaload, 1) := by decide +kernel
theorem dL_law_663 : decode cL_law 663 = .ok (.aload_n 0, 1) := by decide +kernel
theorem dL_law_664 : decode cL_law 664 = .ok (.iload_n 3, 1) := by decide +kernel
theorem dL_law_665 : decode cL_law 665 = .ok (.iconst 2, 1) := by decide +kernel
theorem dL_law_666 : decode cL_law 666 = .ok (.iadd, 1) := by decide +kernel
theorem dL_law_667 : decode cL_law 667 = .ok (.iaload, 1) := by decide +kernel
theorem dL_law_668 : decode cL_law 668 = .ok (.invokevirtual 95, 3) := by decide +kernel
theorem dL_law_671 : decode cL_law 671 = .ok (.pop, 1) := by decide +kernel
theorem dL_law_672 : decode cL_law 672 = .ok (.goto 226, 3) := by decide +kernel
theorem dL_law_675 : decode cL_law 675 = .ok (.aload_n 1, 1) := by decide +kernel
theorem dL_law_676 : decode cL_law 676 = .ok (.aload_n 0, 1) := by decide +kernel
theorem dL_law_677 : decode cL_law 677 = .ok (.iload_n 3, 1) := by decide +kernel
theorem dL_law_678 : decode cL_law 678 = .ok (.iconst 1, 1) := by decide +kernel
theorem dL_law_679 : decode cL_law 679 = .ok (.iadd, 1) := by decide +kernel
theorem dL_law_680 : decode cL_law 680 = .ok (.iaload, 1) := by decide +kernel
theorem dL_law_681 : decode cL_law 681 = .ok (.invokevirtual 96, 3) := by decide +kernel
theorem dL_law_684 : decode cL_law 684 = .ok (.pop, 1) := by decide +kernel
theorem dL_law_685 : decode cL_law 685 = .ok (.aload_n 2, 1) := by decide +kernel
theorem dL_law_686 : decode cL_law 686 = .ok (.aload_n 0, 1) := by decide +kernel
theorem dL_law_687 : decode cL_law 687 = .ok (.iload_n 3, 1) := by decide +kernel
theorem dL_law_688 : decode cL_law 688 = .ok (.iconst 1, 1) := by decide +kernel
theorem dL_law_689 : decode cL_law 689 = .ok (.iadd, 1) := by decide +kernel
theorem dL_law_690 : decode cL_law 690 = .ok (.iaload, 1) := by decide +kernel
theorem dL_law_691 : decode cL_law 691 = .ok (.invokevirtual 99, 3) := by decide +kernel
theorem dL_law_694 : decode cL_law 694 = .ok (.pop, 1) := by decide +kernel
theorem dL_law_695 : decode cL_law 695 = .ok (.goto 203, 3) := by decide +kernel
theorem dL_law_698 : decode cL_law 698 = .ok (.aload_n 1, 1) := by decide +kernel
theorem dL_law_699 : decode cL_law 699 = .ok (.invokevirtual 100, 3) := by decide +kernel
theorem dL_law_702 : decode cL_law 702 = .ok (.pop, 1) := by decide +kernel
theorem dL_law_703 : decode cL_law 703 = .ok (.aload_n 2, 1) := by decide +kernel
theorem dL_law_704 : decode cL_law 704 = .ok (.invokevirtual 103, 3) := by decide +kernel
theorem dL_law_707 : decode cL_law 707 = .ok (.pop, 1) := by decide +kernel
theorem dL_law_708 : decode cL_law 708 = .ok (.goto 190, 3) := by decide +kernel
theorem dL_law_711 : decode cL_law 711 = .ok (.aload_n 1, 1) := by decide +kernel
theorem dL_law_712 : decode cL_law 712 = .ok (.aload_n 0, 1) := by decide +kernel
theorem dL_law_713 : decode cL_law 713 = .ok (.iload_n 3, 1) := by decide +kernel
theorem dL_law_714 : decode cL_law 714 = .ok (.iconst 1, 1) := by decide +kernel
theorem dL_law_715 : decode cL_law 715 = .ok (.iadd, 1) := by decide +kernel
theorem dL_law_716 : decode cL_law 716 = .ok (.iaload, 1) := by decide +kernel
theorem dL_law_717 : decode cL_law 717 = .ok (.invokevirtual 104, 3) := by decide +kernel
theorem dL_law_720 : decode cL_law 720 = .ok (.pop, 1) := by decide +kernel
theorem dL_law_721 : decode cL_law 721 = .ok (.aload_n 2, 1) := by decide +kernel
theorem dL_law_722 : decode cL_law 722 = .ok (.aload_n 0, 1) := by decide +kernel
theorem dL_law_723 : decode cL_law 723 = .ok (.iload_n 3, 1) := by decide +kernel
theorem dL_law_724 : decode cL_law 724 = .ok (.iconst 1, 1) := by decide +kernel
theorem dL_law_725 : decode cL_law 725 = .ok (.iadd, 1) := by decide +kernel
theorem dL_law_726 : decode cL_law 726 = .ok (.iaload, 1) := by decide +kernel
theorem dL_law_727 : decode cL_law 727 = .ok (.invokevirtual 107, 3) := by decide +kernel
theorem dL_law_730 : decode cL_law 730 = .ok (.pop, 1) := by decide +kernel
theorem dL_law_731 : decode cL_law 731 = .ok (.goto 167, 3) := by decide +kernel
theorem dL_law_734 : decode cL_law 734 = .ok (.aload_n 1, 1) := by decide +kernel
theorem dL_law_735 : decode cL_law 735 = .ok (.invokevirtual 108, 3) := by decide +kernel
theorem dL_law_738 : decode cL_law 738 = .ok (.pop, 1) := by decide +kernel
theorem dL_law_739 : decode cL_law 739 = .ok (.aload_n 2, 1) := by decide +kernel
theorem dL_law_740 : decode cL_law 740 = .ok (.invokevirtual 111, 3) := by decide +kernel
theorem dL_law_743 : decode cL_law 743 = .ok (.pop, 1) := by decide +kernel
theorem dL_law_744 : decode cL_law 744 = .ok (.goto 154, 3) := by decide +kernel
theorem dL_law_747 : decode cL_law 747 = .ok (.aload_n 1, 1) := by decide +kernel
theorem dL_law_748 : decode cL_law 748 = .ok (.aload_n 0, 1) := by decide +kernel
theorem dL_law_749 : decode cL_law 749 = .ok (.iload_n 3, 1) := by decide +kernel
theorem dL_law_750 : decode cL_law 750 = .ok (.iconst 1, 1) := by decide +kernel
theorem dL_law_751 : decode cL_law 751 = .ok (.iadd, 1) := by decide +kernel
theorem dL_law_752 : decode cL_law 752 = .ok (.iaload, 1) := by decide +kernel
theorem dL_law_753 : decode cL_law 753 = .ok (.invokevirtual 112, 3) := by decide +kernel
theorem dL_law_756 : decode cL_law 756 = .ok (.pop2, 1) := by decide +kernel
theorem dL_law_757 : decode cL_law 757 = .ok (.aload_n 2, 1) := by decide +kernel
theorem dL_law_758 : decode cL_law 758 = .ok (.aload_n 0, 1) := by decide +kernel
theorem dL_law_759 : decode cL_law 759 = .ok (.iload_n 3, 1) := by decide +kernel
theorem dL_law_760 : decode cL_law 760 = .ok (.iconst 1, 1) := by decide +kernel
theorem dL_law_761 : decode cL_law 761 = .ok (.iadd, 1) := by decide +kernel
theorem dL_law_762 : decode cL_law 762 = .ok (.iaload, 1) := by decide +kernel
theorem dL_law_763 : decode cL_law 763 = .ok (.invokevirtual 116, 3) := by decide +kernel
theorem dL_law_766 : decode cL_law 766 = .ok (.pop2, 1) := by decide +kernel
theorem dL_law_767 : decode cL_law 767 = .ok (.goto 131, 3) := by decide +kernel
theorem dL_law_770 : decode cL_law 770 = .ok (.aload_n 1, 1) := by decide +kernel
theorem dL_law_771 : decode cL_law 771 = .ok (.aload_n 0, 1) := by decide +kernel
theorem dL_law_772 : decode cL_law 772 = .ok (.iload_n 3, 1) := by decide +kernel
theorem dL_law_773 : decode cL_law 773 = .ok (.iconst 1, 1) := by decide +kernel
theorem dL_law_774 : decode cL_law 774 = .ok (.iadd, 1) := by decide +kernel
theorem dL_law_775 : decode cL_law 775 = .ok (.iaload, 1) := by decide +kernel
theorem dL_law_776 : decode cL_law 776 = .ok (.aload_n 0, 1) := by decide +kernel
theorem dL_law_777 : decode cL_law 777 = .ok (.iload_n 3, 1) := by decide +kernel
theorem dL_law_778 : decode cL_law 778 = .ok (.iconst 2, 1) := by decide +kernel
theorem dL_law_779 : decode cL_law 779 = .ok (.iadd, 1) := by decide +kernel
theorem dL_law_780 : decode cL_law 780 = .ok (.iaload, 1) := by decide +kernel
theorem dL_law_781 : decode cL_law 781 = .ok (.invokevirtual 117, 3) := by decide +kernel
theorem dL_law_784 : decode cL_law 784 = .ok (.pop, 1) := by decide +kernel
theorem dL_law_785 : decode cL_law 785 = .ok (.aload_n 2, 1) := by decide +kernel
theorem dL_law_786 : decode cL_law 786 = .ok (.aload_n 0, 1) := by decide +kernel
theorem dL_law_787 : decode cL_law 787 = .ok (.iload_n 3, 1) := by decide +kernel
theorem dL_law_788 : decode cL_law 788 = .ok (.iconst 1, 1) := by decide +kernel
theorem dL_law_789 : decode cL_law 789 = .ok (.iadd, 1) := by decide +kernel
theorem dL_law_790 : decode cL_law 790 = .ok (.iaload, 1) := by decide +kernel
theorem dL_law_791 : decode cL_law 791 = .ok (.aload_n 0, 1) := by decide +kernel
theorem dL_law_792 : decode cL_law 792 = .ok (.iload_n 3, 1) := by decide +kernel
theorem dL_law_793 : decode cL_law 793 = .ok (.iconst 2, 1) := by decide +kernel
theorem dL_law_794 : decode cL_law 794 = .ok (.iadd, 1) := by decide +kernel
theorem dL_law_795 : decode cL_law 795 = .ok (.iaload, 1) := by decide +kernel
theorem dL_law_796 : decode cL_law 796 = .ok (.invokevirtual 120, 3) := by decide +kernel
theorem dL_law_799 : decode cL_law 799 = .ok (.pop, 1) := by decide +kernel
theorem dL_law_800 : decode cL_law 800 = .ok (.goto 98, 3) := by decide +kernel
theorem dL_law_803 : decode cL_law 803 = .ok (.aload_n 1, 1) := by decide +kernel
theorem dL_law_804 : decode cL_law 804 = .ok (.aload_n 0, 1) := by decide +kernel
theorem dL_law_805 : decode cL_law 805 = .ok (.iload_n 3, 1) := by decide +kernel
theorem dL_law_806 : decode cL_law 806 = .ok (.iconst 1, 1) := by decide +kernel
theorem dL_law_807 : decode cL_law 807 = .ok (.iadd, 1) := by decide +kernel
theorem dL_law_808 : decode cL_law 808 = .ok (.iaload, 1) := by decide +kernel
theorem dL_law_809 : decode cL_law 809 = .ok (.invokevirtual 121, 3) := by decide +kernel
theorem dL_law_812 : decode cL_law 812 = .ok (.pop, 1) := by decide +kernel
theorem dL_law_813 : decode cL_law 813 = .ok (.aload_n 2, 1) := by decide +kernel
theorem dL_law_814 : decode cL_law 814 = .ok (.aload_n 0, 1) := by decide +kernel
theorem dL_law_815 : decode cL_law 815 = .ok (.iload_n 3, 1) := by decide +kernel
theorem dL_law_816 : decode cL_law 816 = .ok (.iconst 1, 1) := by decide +kernel
theorem dL_law_817 : decode cL_law 817 = .ok (.iadd, 1) := by decide +kernel
theorem dL_law_818 : decode cL_law 818 = .ok (.iaload, 1) := by decide +kernel
theorem dL_law_819 : decode cL_law 819 = .ok (.invokevirtual 124, 3) := by decide +kernel
theorem dL_law_822 : decode cL_law 822 = .ok (.pop, 1) := by decide +kernel
theorem dL_law_823 : decode cL_law 823 = .ok (.goto 75, 3) := by decide +kernel
theorem dL_law_826 : decode cL_law 826 = .ok (.aload_n 1, 1) := by decide +kernel
theorem dL_law_827 : decode cL_law 827 = .ok (.invokevirtual 125, 3) := by decide +kernel
theorem dL_law_830 : decode cL_law 830 = .ok (.pop, 1) := by decide +kernel
theorem dL_law_831 : decode cL_law 831 = .ok (.aload_n 2, 1) := by decide +kernel
theorem dL_law_832 : decode cL_law 832 = .ok (.invokevirtual 128, 3) := by decide +kernel
theorem dL_law_835 : decode cL_law 835 = .ok (.pop, 1) := by decide +kernel
theorem dL_law_836 : decode cL_law 836 = .ok (.goto 62, 3) := by decide +kernel
theorem dL_law_839 : decode cL_law 839 = .ok (.aload_n 1, 1) := by decide +kernel
theorem dL_law_840 : decode cL_law 840 = .ok (.aload_n 0, 1) := by decide +kernel
theorem dL_law_841 : decode cL_law 841 = .ok (.iload_n 3, 1) := by decide +kernel
theorem dL_law_842 : decode cL_law 842 = .ok (.iconst 1, 1) := by decide +kernel
theorem dL_law_843 : decode cL_law 843 = .ok (.iadd, 1) := by decide +kernel
theorem dL_law_844 : decode cL_law 844 = .ok (.iaload, 1) := by decide +kernel
theorem dL_law_845 : decode cL_law 845 = .ok (.invokevirtual 129, 3) := by decide +kernel
theorem dL_law_848 : decode cL_law 848 = .ok (.pop, 1) := by decide +kernel
theorem dL_law_849 : decode cL_law 849 = .ok (.aload_n 2, 1) := by decide +kernel
theorem dL_law_850 : decode cL_law 850 = .ok (.aload_n 0, 1) := by decide +kernel
theorem dL_law_851 : decode cL_law 851 = .ok (.iload_n 3, 1) := by decide +kernel
theorem dL_law_852 : decode cL_law 852 = .ok (.iconst 1, 1) := by decide +kernel
theorem dL_law_853 : decode cL_law 853 = .ok (.iadd, 1) := by decide +kernel
theorem dL_law_854 : decode cL_law 854 = .ok (.iaload, 1) := by decide +kernel
theorem dL_law_855 : decode cL_law 855 = .ok (.invokevirtual 132, 3) := by decide +kernel
theorem dL_law_858 : decode cL_law 858 = .ok (.pop, 1) := by decide +kernel
theorem dL_law_859 : decode cL_law 859 = .ok (.goto 39, 3) := by decide +kernel
theorem dL_law_862 : decode cL_law 862 = .ok (.aload_n 1, 1) := by decide +kernel
theorem dL_law_863 : decode cL_law 863 = .ok (.invokevirtual 133, 3) := by decide +kernel
theorem dL_law_866 : decode cL_law 866 = .ok (.aload_n 2, 1) := by decide +kernel
theorem dL_law_867 : decode cL_law 867 = .ok (.invokevirtual 136, 3) := by decide +kernel
theorem dL_law_870 : decode cL_law 870 = .ok (.if_icmp .eq 28, 3) := by decide +kernel
theorem dL_law_873 : decode cL_law 873 = .ok (.iconst 0, 1) := by decide +kernel
theorem dL_law_874 : decode cL_law 874 = .ok (.ireturn, 1) := by decide +kernel
theorem dL_law_875 : decode cL_law 875 = .ok (.aload_n 1, 1) := by decide +kernel
theorem dL_law_876 : decode cL_law 876 = .ok (.aload_n 0, 1) := by decide +kernel
theorem dL_law_877 : decode cL_law 877 = .ok (.iload_n 3, 1) := by decide +kernel
theorem dL_law_878 : decode cL_law 878 = .ok (.iconst 1, 1) := by decide +kernel
theorem dL_law_879 : decode cL_law 879 = .ok (.iadd, 1) := by decide +kernel
theorem dL_law_880 : decode cL_law 880 = .ok (.iaload, 1) := by decide +kernel
theorem dL_law_881 : decode cL_law 881 = .ok (.invokevirtual 137, 3) := by decide +kernel
theorem dL_law_884 : decode cL_law 884 = .ok (.pop, 1) := by decide +kernel
theorem dL_law_885 : decode cL_law 885 = .ok (.aload_n 2, 1) := by decide +kernel
theorem dL_law_886 : decode cL_law 886 = .ok (.aload_n 0, 1) := by decide +kernel
theorem dL_law_887 : decode cL_law 887 = .ok (.iload_n 3, 1) := by decide +kernel
theorem dL_law_888 : decode cL_law 888 = .ok (.iconst 1, 1) := by decide +kernel
theorem dL_law_889 : decode cL_law 889 = .ok (.iadd, 1) := by decide +kernel
theorem dL_law_890 : decode cL_law 890 = .ok (.iaload, 1) := by decide +kernel
theorem dL_law_891 : decode cL_law 891 = .ok (.invokevirtual 140, 3) := by decide +kernel
theorem dL_law_894 : decode cL_law 894 = .ok (.pop, 1) := by decide +kernel
theorem dL_law_895 : decode cL_law 895 = .ok (.goto 3, 3) := by decide +kernel
theorem dL_law_898 : decode cL_law 898 = .ok (.iinc 3 6, 3) := by decide +kernel
theorem dL_law_901 : decode cL_law 901 = .ok (.goto (-883), 3) := by decide +kernel
theorem dL_law_904 : decode cL_law 904 = .ok (.iconst 1, 1) := by decide +kernel
theorem dL_law_905 : decode cL_law 905 = .ok (.ireturn, 1) := by decide +kernel
abbrev vwCl : List vw_C := [(RX0, TX0, 4), (RX1, TX1, 6), (RX2, TX2, 11), (RX3, TX3, 7), (RX4, TX4, 6), (RX5, TX5, 20), (RX6, TX6, 17), (RX7, TX7, 92)]
