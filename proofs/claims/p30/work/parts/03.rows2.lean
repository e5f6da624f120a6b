theorem dX6_ends_68 : decode cX6_ends 68 = .ok (.aload_n 2, 1) := by decide +kernel
theorem dX6_ends_69 : decode cX6_ends 69 = .ok (.iload_n 3, 1) := by decide +kernel
theorem dX6_ends_70 : decode cX6_ends 70 = .ok (.invokevirtual 282, 3) := by decide +kernel
theorem dX6_ends_73 : decode cX6_ends 73 = .ok (.ireturn, 1) := by decide +kernel
theorem dX6_ends_74 : decode cX6_ends 74 = .ok (.iconst (-1), 1) := by decide +kernel
theorem dX6_ends_75 : decode cX6_ends 75 = .ok (.ireturn, 1) := by decide +kernel
set_option maxRecDepth 20000 in
theorem ggX6_falls_X6_takeTape : GoodIn wsX6_falls wsX6_takeTape := goodIn_r _ [15, 16, 26, 27, 28, 29, 30, 31, 32, 33, 34, 35, 36, 37, 38, 39, 40, 41, 42] rfl (by decide +kernel)
set_option maxRecDepth 20000 in
theorem gX6_falls_X6_takeTape : GoodIn wsX6_falls (wsV RX6 103 RX6 yX6_takeTape wsX6_takeTape) := goodIn_app (goodIn_of _ (by decide +kernel)) ggX6_falls_X6_takeTape
set_option maxRecDepth 20000 in
theorem ggX6_falls_X6_tellsFalls : GoodIn wsX6_falls wsX6_tellsFalls := goodIn_r _ [20, 3, 26, 27, 28, 29, 30, 31, 32, 33, 34, 35, 36, 37, 38, 39, 40, 41, 42] rfl (by decide +kernel)
set_option maxRecDepth 20000 in
theorem gX6_falls_X6_tellsFalls : GoodIn wsX6_falls (wsV RX6 297 RX6 yX6_tellsFalls wsX6_tellsFalls) := goodIn_app (goodIn_of _ (by decide +kernel)) ggX6_falls_X6_tellsFalls
set_option maxRecDepth 20000 in
theorem ggX6_falls_X6_refuse : GoodIn wsX6_falls wsX6_refuse := goodIn_r _ [24, 25, 26, 27, 28, 29, 30, 31, 32, 33, 34, 35, 36, 37, 38, 39, 40, 41, 42] rfl (by decide +kernel)
set_option maxRecDepth 20000 in
theorem gX6_falls_X6_refuse : GoodIn wsX6_falls (wsV RX6 95 RX6 yX6_refuse wsX6_refuse) := goodIn_app (goodIn_of _ (by decide +kernel)) ggX6_falls_X6_refuse
theorem dX6_falls_0 : decode cX6_falls 0 = .ok (.aload_n 0, 1) := by decide +kernel
theorem dX6_falls_1 : decode cX6_falls 1 = .ok (.invokevirtual 103, 3) := by decide +kernel
theorem dX6_falls_4 : decode cX6_falls 4 = .ok (.istore_n 1, 1) := by decide +kernel
theorem dX6_falls_5 : decode cX6_falls 5 = .ok (.iload_n 1, 1) := by decide +kernel
theorem dX6_falls_6 : decode cX6_falls 6 = .ok (.iconst 3, 1) := by decide +kernel
theorem dX6_falls_7 : decode cX6_falls 7 = .ok (.idiv, 1) := by decide +kernel
theorem dX6_falls_8 : decode cX6_falls 8 = .ok (.istore_n 2, 1) := by decide +kernel
theorem dX6_falls_9 : decode cX6_falls 9 = .ok (.iload_n 2, 1) := by decide +kernel
theorem dX6_falls_10 : decode cX6_falls 10 = .ok (.iconst 1, 1) := by decide +kernel
theorem dX6_falls_11 : decode cX6_falls 11 = .ok (.if_icmp .lt 24, 3) := by decide +kernel
theorem dX6_falls_14 : decode cX6_falls 14 = .ok (.iload_n 2, 1) := by decide +kernel
theorem dX6_falls_15 : decode cX6_falls 15 = .ok (.bipush 20, 2) := by decide +kernel
theorem dX6_falls_17 : decode cX6_falls 17 = .ok (.if_icmp .gt 18, 3) := by decide +kernel
theorem dX6_falls_20 : decode cX6_falls 20 = .ok (.iload_n 2, 1) := by decide +kernel
theorem dX6_falls_21 : decode cX6_falls 21 = .ok (.iconst 3, 1) := by decide +kernel
theorem dX6_falls_22 : decode cX6_falls 22 = .ok (.imul, 1) := by decide +kernel
theorem dX6_falls_23 : decode cX6_falls 23 = .ok (.iload_n 1, 1) := by decide +kernel
theorem dX6_falls_24 : decode cX6_falls 24 = .ok (.if_icmp .ne 11, 3) := by decide +kernel
theorem dX6_falls_27 : decode cX6_falls 27 = .ok (.aload_n 0, 1) := by decide +kernel
theorem dX6_falls_28 : decode cX6_falls 28 = .ok (.iload_n 2, 1) := by decide +kernel
theorem dX6_falls_29 : decode cX6_falls 29 = .ok (.invokevirtual 297, 3) := by decide +kernel
theorem dX6_falls_32 : decode cX6_falls 32 = .ok (.ifCond .ne 9, 3) := by decide +kernel
theorem dX6_falls_35 : decode cX6_falls 35 = .ok (.aload_n 0, 1) := by decide +kernel
theorem dX6_falls_36 : decode cX6_falls 36 = .ok (.iconst 5, 1) := by decide +kernel
theorem dX6_falls_37 : decode cX6_falls 37 = .ok (.invokevirtual 95, 3) := by decide +kernel
theorem dX6_falls_40 : decode cX6_falls 40 = .ok (.ireturn, 1) := by decide +kernel
theorem dX6_falls_41 : decode cX6_falls 41 = .ok (.aload_n 0, 1) := by decide +kernel
theorem dX6_falls_42 : decode cX6_falls 42 = .ok (.iconst 1, 1) := by decide +kernel
theorem dX6_falls_43 : decode cX6_falls 43 = .ok (.putfield 62, 3) := by decide +kernel
theorem dX6_falls_46 : decode cX6_falls 46 = .ok (.aload_n 0, 1) := by decide +kernel
theorem dX6_falls_47 : decode cX6_falls 47 = .ok (.sipush 999, 3) := by decide +kernel
theorem dX6_falls_50 : decode cX6_falls 50 = .ok (.putfield 65, 3) := by decide +kernel
theorem dX6_falls_53 : decode cX6_falls 53 = .ok (.iconst 0, 1) := by decide +kernel
theorem dX6_falls_54 : decode cX6_falls 54 = .ok (.istore_n 3, 1) := by decide +kernel
theorem dX6_falls_55 : decode cX6_falls 55 = .ok (.iload_n 3, 1) := by decide +kernel
theorem dX6_falls_56 : decode cX6_falls 56 = .ok (.iload_n 2, 1) := by decide +kernel
theorem dX6_falls_57 : decode cX6_falls 57 = .ok (.if_icmp .ge 79, 3) := by decide +kernel
theorem dX6_falls_60 : decode cX6_falls 60 = .ok (.aload_n 0, 1) := by decide +kernel
theorem dX6_falls_61 : decode cX6_falls 61 = .ok (.getfield 9, 3) := by decide +kernel
theorem dX6_falls_64 : decode cX6_falls 64 = .ok (.iconst 3, 1) := by decide +kernel
theorem dX6_falls_65 : decode cX6_falls 65 = .ok (.iload_n 3, 1) := by decide +kernel
theorem dX6_falls_66 : decode cX6_falls 66 = .ok (.imul, 1) := by decide +kernel
theorem dX6_falls_67 : decode cX6_falls 67 = .ok (.iaload, 1) := by decide +kernel
theorem dX6_falls_68 : decode cX6_falls 68 = .ok (.sipush 256, 3) := by decide +kernel
theorem dX6_falls_71 : decode cX6_falls 71 = .ok (.imul, 1) := by decide +kernel
theorem dX6_falls_72 : decode cX6_falls 72 = .ok (.aload_n 0, 1) := by decide +kernel
theorem dX6_falls_73 : decode cX6_falls 73 = .ok (.getfield 9, 3) := by decide +kernel
theorem dX6_falls_76 : decode cX6_falls 76 = .ok (.iconst 3, 1) := by decide +kernel
theorem dX6_falls_77 : decode cX6_falls 77 = .ok (.iload_n 3, 1) := by decide +kernel
theorem dX6_falls_78 : decode cX6_falls 78 = .ok (.imul, 1) := by decide +kernel
theorem dX6_falls_79 : decode cX6_falls 79 = .ok (.iconst 1, 1) := by decide +kernel
theorem dX6_falls_80 : decode cX6_falls 80 = .ok (.iadd, 1) := by decide +kernel
theorem dX6_falls_81 : decode cX6_falls 81 = .ok (.iaload, 1) := by decide +kernel
theorem dX6_falls_82 : decode cX6_falls 82 = .ok (.iadd, 1) := by decide +kernel
theorem dX6_falls_83 : decode cX6_falls 83 = .ok (.istore 4, 2) := by decide +kernel
theorem dX6_falls_85 : decode cX6_falls 85 = .ok (.aload_n 0, 1) := by decide +kernel
theorem dX6_falls_86 : decode cX6_falls 86 = .ok (.getfield 9, 3) := by decide +kernel
theorem dX6_falls_89 : decode cX6_falls 89 = .ok (.iconst 3, 1) := by decide +kernel
theorem dX6_falls_90 : decode cX6_falls 90 = .ok (.iload_n 3, 1) := by decide +kernel
theorem dX6_falls_91 : decode cX6_falls 91 = .ok (.imul, 1) := by decide +kernel
theorem dX6_falls_92 : decode cX6_falls 92 = .ok (.iconst 2, 1) := by decide +kernel
theorem dX6_falls_93 : decode cX6_falls 93 = .ok (.iadd, 1) := by decide +kernel
theorem dX6_falls_94 : decode cX6_falls 94 = .ok (.iaload, 1) := by decide +kernel
theorem dX6_falls_95 : decode cX6_falls 95 = .ok (.iconst 1, 1) := by decide +kernel
theorem dX6_falls_96 : decode cX6_falls 96 = .ok (.if_icmp .ne 21, 3) := by decide +kernel
theorem dX6_falls_99 : decode cX6_falls 99 = .ok (.aload_n 0, 1) := by decide +kernel
theorem dX6_falls_100 : decode cX6_falls 100 = .ok (.aload_n 0, 1) := by decide +kernel
theorem dX6_falls_101 : decode cX6_falls 101 = .ok (.getfield 65, 3) := by decide +kernel
theorem dX6_falls_104 : decode cX6_falls 104 = .ok (.iload 4, 2) := by decide +kernel
theorem dX6_falls_106 : decode cX6_falls 106 = .ok (.iconst 1, 1) := by decide +kernel
theorem dX6_falls_107 : decode cX6_falls 107 = .ok (.isub, 1) := by decide +kernel
theorem dX6_falls_108 : decode cX6_falls 108 = .ok (.invokestatic 300, 3) := by decide +kernel
theorem dX6_falls_111 : decode cX6_falls 111 = .ok (.putfield 65, 3) := by decide +kernel
theorem dX6_falls_114 : decode cX6_falls 114 = .ok (.goto 16, 3) := by decide +kernel
theorem dX6_falls_117 : decode cX6_falls 117 = .ok (.aload_n 0, 1) := by decide +kernel
theorem dX6_falls_118 : decode cX6_falls 118 = .ok (.aload_n 0, 1) := by decide +kernel
theorem dX6_falls_119 : decode cX6_falls 119 = .ok (.getfield 62, 3) := by decide +kernel
theorem dX6_falls_122 : decode cX6_falls 122 = .ok (.iload 4, 2) := by decide +kernel
theorem dX6_falls_124 : decode cX6_falls 124 = .ok (.invokestatic 255, 3) := by decide +kernel
theorem dX6_falls_127 : decode cX6_falls 127 = .ok (.putfield 62, 3) := by decide +kernel
theorem dX6_falls_130 : decode cX6_falls 130 = .ok (.iinc 3 1, 3) := by decide +kernel
theorem dX6_falls_133 : decode cX6_falls 133 = .ok (.goto (-78), 3) := by decide +kernel
theorem dX6_falls_136 : decode cX6_falls 136 = .ok (.iload_n 2, 1) := by decide +kernel
theorem dX6_falls_137 : decode cX6_falls 137 = .ok (.ireturn, 1) := by decide +kernel
set_option maxRecDepth 20000 in
theorem ggX6_bears_X6_bearsFrom : GoodIn wsX6_bears wsX6_bearsFrom := goodIn_r _ [7, 2, 1, 8, 9, 10, 11, 12, 13, 14, 15, 16, 17, 18, 19, 20, 21, 22, 23, 24, 25, 26, 27, 28] rfl (by decide +kernel)
set_option maxRecDepth 20000 in
theorem gX6_bears_X6_bearsFrom : GoodIn wsX6_bears (wsV RX6 303 RX6 yX6_bearsFrom wsX6_bearsFrom) := goodIn_app (goodIn_of _ (by decide +kernel)) ggX6_bears_X6_bearsFrom
theorem dX6_bears_0 : decode cX6_bears 0 = .ok (.aload_n 0, 1) := by decide +kernel
theorem dX6_bears_1 : decode cX6_bears 1 = .ok (.aload_n 0, 1) := by decide +kernel
theorem dX6_bears_2 : decode cX6_bears 2 = .ok (.getfield 62, 3) := by decide +kernel
theorem dX6_bears_5 : decode cX6_bears 5 = .ok (.invokevirtual 303, 3) := by decide +kernel
theorem dX6_bears_8 : decode cX6_bears 8 = .ok (.istore_n 2, 1) := by decide +kernel
theorem dX6_bears_9 : decode cX6_bears 9 = .ok (.iload_n 1, 1) := by decide +kernel
theorem dX6_bears_10 : decode cX6_bears 10 = .ok (.tableswitch 54 0 2 #[26, 28, 41], 26) := by decide +kernel
theorem dX6_bears_36 : decode cX6_bears 36 = .ok (.iload_n 2, 1) := by decide +kernel
theorem dX6_bears_37 : decode cX6_bears 37 = .ok (.ireturn, 1) := by decide +kernel
theorem dX6_bears_38 : decode cX6_bears 38 = .ok (.iload_n 2, 1) := by decide +kernel
theorem dX6_bears_39 : decode cX6_bears 39 = .ok (.ifCond .le 10, 3) := by decide +kernel
theorem dX6_bears_42 : decode cX6_bears 42 = .ok (.aload_n 0, 1) := by decide +kernel
theorem dX6_bears_43 : decode cX6_bears 43 = .ok (.getfield 62, 3) := by decide +kernel
theorem dX6_bears_46 : decode cX6_bears 46 = .ok (.goto 4, 3) := by decide +kernel
theorem dX6_bears_49 : decode cX6_bears 49 = .ok (.iconst (-1), 1) := by decide +kernel
theorem dX6_bears_50 : decode cX6_bears 50 = .ok (.ireturn, 1) := by decide +kernel
theorem dX6_bears_51 : decode cX6_bears 51 = .ok (.iload_n 2, 1) := by decide +kernel
theorem dX6_bears_52 : decode cX6_bears 52 = .ok (.ifCond .le 10, 3) := by decide +kernel
theorem dX6_bears_55 : decode cX6_bears 55 = .ok (.aload_n 0, 1) := by decide +kernel
theorem dX6_bears_56 : decode cX6_bears 56 = .ok (.getfield 65, 3) := by decide +kernel
theorem dX6_bears_59 : decode cX6_bears 59 = .ok (.goto 4, 3) := by decide +kernel
theorem dX6_bears_62 : decode cX6_bears 62 = .ok (.iconst (-1), 1) := by decide +kernel
theorem dX6_bears_63 : decode cX6_bears 63 = .ok (.ireturn, 1) := by decide +kernel
theorem dX6_bears_64 : decode cX6_bears 64 = .ok (.iconst (-1), 1) := by decide +kernel
theorem dX6_bears_65 : decode cX6_bears 65 = .ok (.ireturn, 1) := by decide +kernel
set_option maxRecDepth 20000 in
theorem ggX6_stop_X6_takeTape : GoodIn wsX6_stop wsX6_takeTape := goodIn_r _ [18, 19, 175, 176, 177, 178, 179, 180, 181, 182, 183, 184, 185, 186, 187, 188, 189, 190, 191] rfl (by decide +kernel)
set_option maxRecDepth 20000 in
theorem gX6_stop_X6_takeTape : GoodIn wsX6_stop (wsV RX6 103 RX6 yX6_takeTape wsX6_takeTape) := goodIn_app (goodIn_of _ (by decide +kernel)) ggX6_stop_X6_takeTape
set_option maxRecDepth 20000 in
theorem ggX6_stop_X6_namesWishes : GoodIn wsX6_stop wsX6_namesWishes := goodIn_r _ [23, 7, 24, 25, 26, 17, 27, 6, 28, 175, 176, 177, 178, 179, 180, 181, 182, 183, 184, 185, 186, 187, 188, 189, 190, 191, 196, 197, 198, 199, 200, 201, 202, 203, 204, 205, 206, 207, 208, 209, 210, 211, 212, 213, 214, 215] rfl (by decide +kernel)
set_option maxRecDepth 20000 in
theorem gX6_stop_X6_namesWishes : GoodIn wsX6_stop (wsV RX6 245 RX6 yX6_namesWishes wsX6_namesWishes) := goodIn_app (goodIn_of _ (by decide +kernel)) ggX6_stop_X6_namesWishes
set_option maxRecDepth 20000 in
theorem ggX6_stop_X6_bearsFrom : GoodIn wsX6_stop wsX6_bearsFrom := goodIn_r _ [32, 33, 1, 9, 10, 11, 12, 175, 176, 177, 178, 179, 180, 181, 182, 183, 184, 185, 186, 187, 188, 189, 190, 191] rfl (by decide +kernel)
set_option maxRecDepth 20000 in
theorem gX6_stop_X6_bearsFrom : GoodIn wsX6_stop (wsV RX6 303 RX6 yX6_bearsFrom wsX6_bearsFrom) := goodIn_app (goodIn_of _ (by decide +kernel)) ggX6_stop_X6_bearsFrom
set_option maxRecDepth 20000 in
theorem ggX6_stop_X6_mayAllBeSaid : GoodIn wsX6_stop wsX6_mayAllBeSaid := goodIn_r _ [37, 4, 5, 7, 6, 38, 39, 40, 41, 42, 43, 44, 45, 46, 47, 48, 49, 50, 51, 52, 53, 54, 55, 56, 57, 58, 59, 60, 61, 62, 11, 63, 64, 10, 12, 65, 66, 67, 68, 69, 70, 71, 72, 73, 74, 75, 76, 77, 78, 79, 80, 81, 82, 83, 84, 85, 86, 87, 88, 89, 90, 91, 92, 93, 94, 95, 96, 97, 98, 99, 100, 101, 102, 103, 104, 105, 106, 107, 108, 109, 110, 111, 112, 113, 114, 115, 116, 117, 118, 119, 120, 121, 122, 123, 124, 125, 126, 127, 128, 129, 130, 131, 132, 133, 134, 135, 136, 137, 138, 139, 140, 141, 142, 143, 144, 145, 146, 147, 148, 149, 150, 151, 152, 153, 154, 155, 156, 157, 158, 159, 175, 176, 177, 178, 179, 180, 181, 182, 183, 184, 185, 186, 187, 188, 189, 190, 191, 192, 193, 194, 195, 196, 197, 198, 199, 200, 201, 202, 203, 204, 205, 206, 207, 208, 209, 210, 211, 212, 213, 214, 215] rfl (by decide +kernel)
set_option maxRecDepth 20000 in
theorem gX6_stop_X6_mayAllBeSaid : GoodIn wsX6_stop (wsV RX6 306 RX6 yX6_mayAllBeSaid wsX6_mayAllBeSaid) := goodIn_app (goodIn_of _ (by decide +kernel)) ggX6_stop_X6_mayAllBeSaid
set_option maxRecDepth 20000 in
theorem ggX6_stop_X6_refuse : GoodIn wsX6_stop wsX6_refuse := goodIn_r _ [163, 164, 175, 176, 177, 178, 179, 180, 181, 182, 183, 184, 185, 186, 187, 188, 189, 190, 191] rfl (by decide +kernel)
set_option maxRecDepth 20000 in
theorem gX6_stop_X6_refuse : GoodIn wsX6_stop (wsV RX6 95 RX6 yX6_refuse wsX6_refuse) := goodIn_app (goodIn_of _ (by decide +kernel)) ggX6_stop_X6_refuse
set_option maxRecDepth 20000 in
theorem ggX6_stop_J7_fill_d0a16 : GoodIn wsX6_stop wsJ7_fill_d0a16 := goodIn_r _ [168] rfl (by decide +kernel)
set_option maxRecDepth 20000 in
theorem gX6_stop_J7_fill_d0a16 : GoodIn wsX6_stop (va_wsS RX6 89 yJ7_fill_d0a16 wsJ7_fill_d0a16) := goodIn_app (goodIn_of _ (by decide +kernel)) ggX6_stop_J7_fill_d0a16
set_option maxRecDepth 20000 in
theorem ggX6_stop_X0_take : GoodIn wsX6_stop wsX0_take := goodIn_r _ [42, 43, 44, 45, 46, 47, 48, 49, 41, 50, 192, 193, 194, 195] rfl (by decide +kernel)
set_option maxRecDepth 20000 in
theorem gX6_stop_X0_take : GoodIn wsX6_stop (wsV RX6 249 RX0 yX0_take wsX0_take) := goodIn_app (goodIn_of _ (by decide +kernel)) ggX6_stop_X0_take
set_option maxRecDepth 20000 in
theorem ggX6_stop_X5_seaBehind : GoodIn wsX6_stop wsX5_seaBehind := goodIn_r _ [146, 84, 147, 148, 149, 54, 150, 61, 62, 11, 63, 64, 10, 12, 65, 66, 67, 68, 69, 70, 71, 72, 73, 74, 75, 76, 77, 78, 79, 80, 81, 82, 83, 56, 85, 86, 87, 88, 89, 90, 91, 92, 93, 94, 95, 96, 97, 98, 99, 100, 101, 102, 103, 104, 105, 106, 107, 108, 109, 110, 111, 112, 113, 114, 115, 116, 117, 118, 119, 120, 121, 122, 123, 124, 125, 126, 127, 128, 192, 193, 194, 195, 196, 197, 198, 199, 200, 201, 202, 203, 204, 205, 206, 207, 208, 209, 210, 211, 212, 213, 214, 215] rfl (by decide +kernel)
set_option maxRecDepth 20000 in
theorem gX6_stop_X5_seaBehind : GoodIn wsX6_stop (wsV RX6 309 RX5 yX5_seaBehind wsX5_seaBehind) := goodIn_app (goodIn_of _ (by decide +kernel)) ggX6_stop_X5_seaBehind
set_option maxRecDepth 20000 in
theorem ggX6_stop_X5_grantAt : GoodIn wsX6_stop wsX5_grantAt := goodIn_r _ [154, 56, 85, 86, 155, 156, 157, 54, 158, 104, 134, 110, 159, 48, 49, 41, 50, 43, 44, 45, 46, 192, 193, 194, 195, 196, 197, 198, 199, 200, 201, 202, 203, 204, 205, 206, 207, 208, 209, 210, 211, 212, 213, 214, 215] rfl (by decide +kernel)
set_option maxRecDepth 20000 in
theorem gX6_stop_X5_grantAt : GoodIn wsX6_stop (wsV RX6 312 RX5 yX5_grantAt wsX5_grantAt) := goodIn_app (goodIn_of _ (by decide +kernel)) ggX6_stop_X5_grantAt
set_option maxRecDepth 20000 in
theorem ggX6_stop_X6_valueOf : GoodIn wsX6_stop wsX6_valueOf := goodIn_r _ [172, 1, 6, 173, 29, 30, 31, 17, 32, 33, 9, 10, 11, 12, 174, 89, 90, 54, 91, 87, 92, 175, 176, 177, 178, 179, 180, 181, 182, 183, 184, 185, 186, 187, 188, 189, 190, 191, 196, 197, 198, 199, 200, 201, 202, 203, 204, 205, 206, 207, 208, 209, 210, 211, 212, 213, 214, 215] rfl (by decide +kernel)
set_option maxRecDepth 20000 in
theorem gX6_stop_X6_valueOf : GoodIn wsX6_stop (wsV RX6 316 RX6 yX6_valueOf wsX6_valueOf) := goodIn_app (goodIn_of _ (by decide +kernel)) ggX6_stop_X6_valueOf
theorem dX6_stop_0 : decode cX6_stop 0 = .ok (.aload_n 0, 1) := by decide +kernel
theorem dX6_stop_1 : decode cX6_stop 1 = .ok (.invokevirtual 103, 3) := by decide +kernel
theorem dX6_stop_4 : decode cX6_stop 4 = .ok (.istore_n 1, 1) := by decide +kernel
theorem dX6_stop_5 : decode cX6_stop 5 = .ok (.iload_n 1, 1) := by decide +kernel
theorem dX6_stop_6 : decode cX6_stop 6 = .ok (.bipush 12, 2) := by decide +kernel
theorem dX6_stop_8 : decode cX6_stop 8 = .ok (.if_icmp .gt 31, 3) := by decide +kernel
theorem dX6_stop_11 : decode cX6_stop 11 = .ok (.aload_n 0, 1) := by decide +kernel
theorem dX6_stop_12 : decode cX6_stop 12 = .ok (.iload_n 1, 1) := by decide +kernel
theorem dX6_stop_13 : decode cX6_stop 13 = .ok (.iconst (-1), 1) := by decide +kernel
theorem dX6_stop_14 : decode cX6_stop 14 = .ok (.invokevirtual 245, 3) := by decide +kernel
theorem dX6_stop_17 : decode cX6_stop 17 = .ok (.ifCond .eq 22, 3) := by decide +kernel
theorem dX6_stop_20 : decode cX6_stop 20 = .ok (.aload_n 0, 1) := by decide +kernel
theorem dX6_stop_21 : decode cX6_stop 21 = .ok (.aload_n 0, 1) := by decide +kernel
theorem dX6_stop_22 : decode cX6_stop 22 = .ok (.getfield 62, 3) := by decide +kernel
theorem dX6_stop_25 : decode cX6_stop 25 = .ok (.invokevirtual 303, 3) := by decide +kernel
theorem dX6_stop_28 : decode cX6_stop 28 = .ok (.ifCond .eq 11, 3) := by decide +kernel
theorem dX6_stop_31 : decode cX6_stop 31 = .ok (.aload_n 0, 1) := by decide +kernel
theorem dX6_stop_32 : decode cX6_stop 32 = .ok (.iload_n 1, 1) := by decide +kernel
theorem dX6_stop_33 : decode cX6_stop 33 = .ok (.invokevirtual 306, 3) := by decide +kernel
theorem dX6_stop_36 : decode cX6_stop 36 = .ok (.ifCond .ne 9, 3) := by decide +kernel
theorem dX6_stop_39 : decode cX6_stop 39 = .ok (.aload_n 0, 1) := by decide +kernel
theorem dX6_stop_40 : decode cX6_stop 40 = .ok (.iconst 5, 1) := by decide +kernel
theorem dX6_stop_41 : decode cX6_stop 41 = .ok (.invokevirtual 95, 3) := by decide +kernel
theorem dX6_stop_44 : decode cX6_stop 44 = .ok (.ireturn, 1) := by decide +kernel
theorem dX6_stop_45 : decode cX6_stop 45 = .ok (.aload_n 0, 1) := by decide +kernel
theorem dX6_stop_46 : decode cX6_stop 46 = .ok (.getfield 71, 3) := by decide +kernel
theorem dX6_stop_49 : decode cX6_stop 49 = .ok (.ldc2_w 87, 3) := by decide +kernel
theorem dX6_stop_52 : decode cX6_stop 52 = .ok (.invokestatic 89, 3) := by decide +kernel
theorem dX6_stop_55 : decode cX6_stop 55 = .ok (.aload_n 0, 1) := by decide +kernel
theorem dX6_stop_56 : decode cX6_stop 56 = .ok (.getfield 39, 3) := by decide +kernel
theorem dX6_stop_59 : decode cX6_stop 59 = .ok (.aload_n 0, 1) := by decide +kernel
theorem dX6_stop_60 : decode cX6_stop 60 = .ok (.getfield 35, 3) := by decide +kernel
theorem dX6_stop_63 : decode cX6_stop 63 = .ok (.invokevirtual 249, 3) := by decide +kernel
theorem dX6_stop_66 : decode cX6_stop 66 = .ok (.iconst 0, 1) := by decide +kernel
theorem dX6_stop_67 : decode cX6_stop 67 = .ok (.istore_n 2, 1) := by decide +kernel
theorem dX6_stop_68 : decode cX6_stop 68 = .ok (.iconst 0, 1) := by decide +kernel
theorem dX6_stop_69 : decode cX6_stop 69 = .ok (.istore_n 3, 1) := by decide +kernel
theorem dX6_stop_70 : decode cX6_stop 70 = .ok (.iconst 0, 1) := by decide +kernel
theorem dX6_stop_71 : decode cX6_stop 71 = .ok (.istore 4, 2) := by decide +kernel
theorem dX6_stop_73 : decode cX6_stop 73 = .ok (.iload 4, 2) := by decide +kernel
theorem dX6_stop_75 : decode cX6_stop 75 = .ok (.iload_n 1, 1) := by decide +kernel
theorem dX6_stop_76 : decode cX6_stop 76 = .ok (.if_icmp .gt 115, 3) := by decide +kernel
theorem dX6_stop_79 : decode cX6_stop 79 = .ok (.iload 4, 2) := by decide +kernel
theorem dX6_stop_81 : decode cX6_stop 81 = .ok (.aload_n 0, 1) := by decide +kernel
theorem dX6_stop_82 : decode cX6_stop 82 = .ok (.getfield 71, 3) := by decide +kernel
theorem dX6_stop_85 : decode cX6_stop 85 = .ok (.arraylength, 1) := by decide +kernel
theorem dX6_stop_86 : decode cX6_stop 86 = .ok (.if_icmp .ge 105, 3) := by decide +kernel
theorem dX6_stop_89 : decode cX6_stop 89 = .ok (.iload 4, 2) := by decide +kernel
theorem dX6_stop_91 : decode cX6_stop 91 = .ok (.ifCond .le 55, 3) := by decide +kernel
theorem dX6_stop_94 : decode cX6_stop 94 = .ok (.aload_n 0, 1) := by decide +kernel
theorem dX6_stop_95 : decode cX6_stop 95 = .ok (.getfield 16, 3) := by decide +kernel
theorem dX6_stop_98 : decode cX6_stop 98 = .ok (.aload_n 0, 1) := by decide +kernel
theorem dX6_stop_99 : decode cX6_stop 99 = .ok (.getfield 39, 3) := by decide +kernel
theorem dX6_stop_102 : decode cX6_stop 102 = .ok (.aload_n 0, 1) := by decide +kernel
theorem dX6_stop_103 : decode cX6_stop 103 = .ok (.getfield 9, 3) := by decide +kernel
theorem dX6_stop_106 : decode cX6_stop 106 = .ok (.iload 4, 2) := by decide +kernel
theorem dX6_stop_108 : decode cX6_stop 108 = .ok (.iconst 1, 1) := by decide +kernel
theorem dX6_stop_109 : decode cX6_stop 109 = .ok (.isub, 1) := by decide +kernel
theorem dX6_stop_110 : decode cX6_stop 110 = .ok (.iaload, 1) := by decide +kernel
theorem dX6_stop_111 : decode cX6_stop 111 = .ok (.aload_n 0, 1) := by decide +kernel
theorem dX6_stop_112 : decode cX6_stop 112 = .ok (.getfield 16, 3) := by decide +kernel
theorem dX6_stop_115 : decode cX6_stop 115 = .ok (.aload_n 0, 1) := by decide +kernel
theorem dX6_stop_116 : decode cX6_stop 116 = .ok (.getfield 39, 3) := by decide +kernel
theorem dX6_stop_119 : decode cX6_stop 119 = .ok (.aload_n 0, 1) := by decide +kernel
theorem dX6_stop_120 : decode cX6_stop 120 = .ok (.getfield 9, 3) := by decide +kernel
theorem dX6_stop_123 : decode cX6_stop 123 = .ok (.iload 4, 2) := by decide +kernel
theorem dX6_stop_125 : decode cX6_stop 125 = .ok (.iconst 1, 1) := by decide +kernel
theorem dX6_stop_126 : decode cX6_stop 126 = .ok (.isub, 1) := by decide +kernel
theorem dX6_stop_127 : decode cX6_stop 127 = .ok (.iaload, 1) := by decide +kernel
theorem dX6_stop_128 : decode cX6_stop 128 = .ok (.invokevirtual 309, 3) := by decide +kernel
theorem dX6_stop_131 : decode cX6_stop 131 = .ok (.invokevirtual 312, 3) := by decide +kernel
theorem dX6_stop_134 : decode cX6_stop 134 = .ok (.iload_n 2, 1) := by decide +kernel
theorem dX6_stop_135 : decode cX6_stop 135 = .ok (.aload_n 0, 1) := by decide +kernel
theorem dX6_stop_136 : decode cX6_stop 136 = .ok (.getfield 39, 3) := by decide +kernel
theorem dX6_stop_139 : decode cX6_stop 139 = .ok (.getfield 140, 3) := by decide +kernel
theorem dX6_stop_142 : decode cX6_stop 142 = .ok (.invokestatic 255, 3) := by decide +kernel
theorem dX6_stop_145 : decode cX6_stop 145 = .ok (.istore_n 2, 1) := by decide +kernel
theorem dX6_stop_146 : decode cX6_stop 146 = .ok (.aload_n 0, 1) := by decide +kernel
theorem dX6_stop_147 : decode cX6_stop 147 = .ok (.getfield 71, 3) := by decide +kernel
theorem dX6_stop_150 : decode cX6_stop 150 = .ok (.iload 4, 2) := by decide +kernel
theorem dX6_stop_152 : decode cX6_stop 152 = .ok (.aload_n 0, 1) := by decide +kernel
theorem dX6_stop_153 : decode cX6_stop 153 = .ok (.aload_n 0, 1) := by decide +kernel
theorem dX6_stop_154 : decode cX6_stop 154 = .ok (.getfield 39, 3) := by decide +kernel
theorem dX6_stop_157 : decode cX6_stop 157 = .ok (.getfield 136, 3) := by decide +kernel
theorem dX6_stop_160 : decode cX6_stop 160 = .ok (.iload_n 2, 1) := by decide +kernel
theorem dX6_stop_161 : decode cX6_stop 161 = .ok (.invokevirtual 316, 3) := by decide +kernel
theorem dX6_stop_164 : decode cX6_stop 164 = .ok (.lastore, 1) := by decide +kernel
theorem dX6_stop_165 : decode cX6_stop 165 = .ok (.aload_n 0, 1) := by decide +kernel
theorem dX6_stop_166 : decode cX6_stop 166 = .ok (.getfield 71, 3) := by decide +kernel
theorem dX6_stop_169 : decode cX6_stop 169 = .ok (.iload 4, 2) := by decide +kernel
theorem dX6_stop_171 : decode cX6_stop 171 = .ok (.laload, 1) := by decide +kernel
theorem dX6_stop_172 : decode cX6_stop 172 = .ok (.aload_n 0, 1) := by decide +kernel
theorem dX6_stop_173 : decode cX6_stop 173 = .ok (.getfield 71, 3) := by decide +kernel
theorem dX6_stop_176 : decode cX6_stop 176 = .ok (.iload_n 3, 1) := by decide +kernel
theorem dX6_stop_177 : decode cX6_stop 177 = .ok (.laload, 1) := by decide +kernel
theorem dX6_stop_178 : decode cX6_stop 178 = .ok (.lcmp, 1) := by decide +kernel
theorem dX6_stop_179 : decode cX6_stop 179 = .ok (.ifCond .le 6, 3) := by decide +kernel
theorem dX6_stop_182 : decode cX6_stop 182 = .ok (.iload 4, 2) := by decide +kernel
theorem dX6_stop_184 : decode cX6_stop 184 = .ok (.istore_n 3, 1) := by decide +kernel
theorem dX6_stop_185 : decode cX6_stop 185 = .ok (.iinc 4 1, 3) := by decide +kernel
theorem dX6_stop_188 : decode cX6_stop 188 = .ok (.goto (-115), 3) := by decide +kernel
theorem dX6_stop_191 : decode cX6_stop 191 = .ok (.iload_n 3, 1) := by decide +kernel
theorem dX6_stop_192 : decode cX6_stop 192 = .ok (.ireturn, 1) := by decide +kernel
theorem dX6_value_0 : decode cX6_value 0 = .ok (.iload_n 1, 1) := by decide +kernel
theorem dX6_value_1 : decode cX6_value 1 = .ok (.ifCond .lt 21, 3) := by decide +kernel
theorem dX6_value_4 : decode cX6_value 4 = .ok (.iload_n 1, 1) := by decide +kernel
theorem dX6_value_5 : decode cX6_value 5 = .ok (.aload_n 0, 1) := by decide +kernel
theorem dX6_value_6 : decode cX6_value 6 = .ok (.getfield 71, 3) := by decide +kernel
theorem dX6_value_9 : decode cX6_value 9 = .ok (.arraylength, 1) := by decide +kernel
theorem dX6_value_10 : decode cX6_value 10 = .ok (.if_icmp .ge 12, 3) := by decide +kernel
theorem dX6_value_13 : decode cX6_value 13 = .ok (.aload_n 0, 1) := by decide +kernel
theorem dX6_value_14 : decode cX6_value 14 = .ok (.getfield 71, 3) := by decide +kernel
theorem dX6_value_17 : decode cX6_value 17 = .ok (.iload_n 1, 1) := by decide +kernel
theorem dX6_value_18 : decode cX6_value 18 = .ok (.laload, 1) := by decide +kernel
theorem dX6_value_19 : decode cX6_value 19 = .ok (.goto 6, 3) := by decide +kernel
theorem dX6_value_22 : decode cX6_value 22 = .ok (.ldc2_w 87, 3) := by decide +kernel
theorem dX6_value_25 : decode cX6_value 25 = .ok (.lreturn, 1) := by decide +kernel
set_option maxRecDepth 20000 in
theorem ggX6_rivals_X3_play : GoodIn wsX6_rivals wsX3_play := goodIn_r _ [10, 11, 12, 13, 14, 15, 16, 17, 18, 19, 20, 21, 22, 23, 24, 25, 26, 27, 28, 9, 29, 30, 31, 32, 33, 34, 35, 36, 37, 38, 39, 40, 41, 42, 43, 44, 45, 46, 47, 48, 49, 50, 51, 52, 53, 54, 55, 56, 57, 58, 59, 60, 61, 62, 63, 64, 65, 66, 67, 68, 69, 70, 71, 72, 73, 74, 75, 76, 77, 78, 79, 80, 81, 82, 83, 84, 85, 86, 87, 88, 89, 90, 91, 92, 93, 94, 95, 96, 97, 98, 99, 100, 101, 102, 103, 104, 105, 106, 107, 108, 109, 110, 111, 112, 113, 114, 115, 116, 117, 118, 119, 120, 121, 122, 123, 124, 125, 126, 127, 128, 129, 130, 131, 132, 133, 134, 135, 136, 137, 138, 139, 140, 141, 142, 143, 144, 145, 146, 147, 148, 149, 150, 151, 152, 153, 154, 172, 173, 174, 175, 176, 177, 178, 179, 180, 181, 182, 183, 184, 185, 186, 187, 188, 189, 190, 191, 192, 193, 194, 195, 196, 197, 198, 199, 200, 201, 202] rfl (by decide +kernel)
set_option maxRecDepth 20000 in
theorem gX6_rivals_X3_play : GoodIn wsX6_rivals (wsV RX6 321 RX3 yX3_play wsX3_play) := goodIn_app (goodIn_of _ (by decide +kernel)) ggX6_rivals_X3_play
theorem dX6_rivals_0 : decode cX6_rivals 0 = .ok (.iload_n 1, 1) := by decide +kernel
theorem dX6_rivals_1 : decode cX6_rivals 1 = .ok (.ifCond .lt 18, 3) := by decide +kernel
theorem dX6_rivals_4 : decode cX6_rivals 4 = .ok (.iload_n 1, 1) := by decide +kernel
theorem dX6_rivals_5 : decode cX6_rivals 5 = .ok (.iconst 4, 1) := by decide +kernel
theorem dX6_rivals_6 : decode cX6_rivals 6 = .ok (.if_icmp .gt 13, 3) := by decide +kernel
theorem dX6_rivals_9 : decode cX6_rivals 9 = .ok (.iload_n 2, 1) := by decide +kernel
theorem dX6_rivals_10 : decode cX6_rivals 10 = .ok (.iconst (-1), 1) := by decide +kernel
theorem dX6_rivals_11 : decode cX6_rivals 11 = .ok (.if_icmp .lt 8, 3) := by decide +kernel
theorem dX6_rivals_14 : decode cX6_rivals 14 = .ok (.iload_n 2, 1) := by decide +kernel
theorem dX6_rivals_15 : decode cX6_rivals 15 = .ok (.iload_n 1, 1) := by decide +kernel
theorem dX6_rivals_16 : decode cX6_rivals 16 = .ok (.if_icmp .lt 7, 3) := by decide +kernel
theorem dX6_rivals_19 : decode cX6_rivals 19 = .ok (.ldc_w 320, 3) := by decide +kernel
theorem dX6_rivals_22 : decode cX6_rivals 22 = .ok (.ireturn, 1) := by decide +kernel
theorem dX6_rivals_23 : decode cX6_rivals 23 = .ok (.aload_n 0, 1) := by decide +kernel
theorem dX6_rivals_24 : decode cX6_rivals 24 = .ok (.getfield 54, 3) := by decide +kernel
theorem dX6_rivals_27 : decode cX6_rivals 27 = .ok (.aload_n 0, 1) := by decide +kernel
theorem dX6_rivals_28 : decode cX6_rivals 28 = .ok (.getfield 16, 3) := by decide +kernel
theorem dX6_rivals_31 : decode cX6_rivals 31 = .ok (.iload_n 1, 1) := by decide +kernel
theorem dX6_rivals_32 : decode cX6_rivals 32 = .ok (.invokevirtual 321, 3) := by decide +kernel
theorem dX6_rivals_35 : decode cX6_rivals 35 = .ok (.iload_n 2, 1) := by decide +kernel
theorem dX6_rivals_36 : decode cX6_rivals 36 = .ok (.iconst (-1), 1) := by decide +kernel
theorem dX6_rivals_37 : decode cX6_rivals 37 = .ok (.if_icmp .ne 15, 3) := by decide +kernel
theorem dX6_rivals_40 : decode cX6_rivals 40 = .ok (.aload_n 0, 1) := by decide +kernel
theorem dX6_rivals_41 : decode cX6_rivals 41 = .ok (.getfield 54, 3) := by decide +kernel
theorem dX6_rivals_44 : decode cX6_rivals 44 = .ok (.getfield 325, 3) := by decide +kernel
theorem dX6_rivals_47 : decode cX6_rivals 47 = .ok (.iload_n 1, 1) := by decide +kernel
theorem dX6_rivals_48 : decode cX6_rivals 48 = .ok (.iaload, 1) := by decide +kernel
theorem dX6_rivals_49 : decode cX6_rivals 49 = .ok (.goto 16, 3) := by decide +kernel
theorem dX6_rivals_52 : decode cX6_rivals 52 = .ok (.aload_n 0, 1) := by decide +kernel
theorem dX6_rivals_53 : decode cX6_rivals 53 = .ok (.getfield 54, 3) := by decide +kernel
theorem dX6_rivals_56 : decode cX6_rivals 56 = .ok (.getfield 328, 3) := by decide +kernel
theorem dX6_rivals_59 : decode cX6_rivals 59 = .ok (.iload_n 1, 1) := by decide +kernel
theorem dX6_rivals_60 : decode cX6_rivals 60 = .ok (.iconst 4, 1) := by decide +kernel
theorem dX6_rivals_61 : decode cX6_rivals 61 = .ok (.imul, 1) := by decide +kernel
theorem dX6_rivals_62 : decode cX6_rivals 62 = .ok (.iload_n 2, 1) := by decide +kernel
theorem dX6_rivals_63 : decode cX6_rivals 63 = .ok (.iadd, 1) := by decide +kernel
theorem dX6_rivals_64 : decode cX6_rivals 64 = .ok (.iaload, 1) := by decide +kernel
theorem dX6_rivals_65 : decode cX6_rivals 65 = .ok (.ireturn, 1) := by decide +kernel
set_option maxRecDepth 20000 in
theorem ggX6_before_J6_bitCount_0f7a4 : GoodIn wsX6_before wsJ6_bitCount_0f7a4 := goodIn_r _ [8, 9, 10, 11] rfl (by decide +kernel)
set_option maxRecDepth 20000 in
theorem gX6_before_J6_bitCount_0f7a4 : GoodIn wsX6_before (va_wsS RX6 331 yJ6_bitCount_0f7a4 wsJ6_bitCount_0f7a4) := goodIn_app (goodIn_of _ (by decide +kernel)) ggX6_before_J6_bitCount_0f7a4
theorem dX6_before_0 : decode cX6_before 0 = .ok (.aload_n 0, 1) := by decide +kernel
theorem dX6_before_1 : decode cX6_before 1 = .ok (.getfield 35, 3) := by decide +kernel
theorem dX6_before_4 : decode cX6_before 4 = .ok (.getfield 136, 3) := by decide +kernel
theorem dX6_before_7 : decode cX6_before 7 = .ok (.aload_n 0, 1) := by decide +kernel
theorem dX6_before_8 : decode cX6_before 8 = .ok (.getfield 16, 3) := by decide +kernel
theorem dX6_before_11 : decode cX6_before 11 = .ok (.getfield 192, 3) := by decide +kernel
theorem dX6_before_14 : decode cX6_before 14 = .ok (.iand, 1) := by decide +kernel
theorem dX6_before_15 : decode cX6_before 15 = .ok (.ifCond .ne 7, 3) := by decide +kernel
theorem dX6_before_18 : decode cX6_before 18 = .ok (.iconst 1, 1) := by decide +kernel
theorem dX6_before_19 : decode cX6_before 19 = .ok (.goto 4, 3) := by decide +kernel
theorem dX6_before_22 : decode cX6_before 22 = .ok (.iconst 0, 1) := by decide +kernel
theorem dX6_before_23 : decode cX6_before 23 = .ok (.istore_n 2, 1) := by decide +kernel
theorem dX6_before_24 : decode cX6_before 24 = .ok (.iload_n 1, 1) := by decide +kernel
theorem dX6_before_25 : decode cX6_before 25 = .ok (.tableswitch 88 0 2 #[27, 48, 64], 27) := by decide +kernel
theorem dX6_before_52 : decode cX6_before 52 = .ok (.iload_n 2, 1) := by decide +kernel
theorem dX6_before_53 : decode cX6_before 53 = .ok (.ifCond .eq 18, 3) := by decide +kernel
theorem dX6_before_56 : decode cX6_before 56 = .ok (.iconst 1, 1) := by decide +kernel
theorem dX6_before_57 : decode cX6_before 57 = .ok (.aload_n 0, 1) := by decide +kernel
theorem dX6_before_58 : decode cX6_before 58 = .ok (.getfield 16, 3) := by decide +kernel
theorem dX6_before_61 : decode cX6_before 61 = .ok (.getfield 192, 3) := by decide +kernel
theorem dX6_before_64 : decode cX6_before 64 = .ok (.invokestatic 331, 3) := by decide +kernel
theorem dX6_before_67 : decode cX6_before 67 = .ok (.ishl, 1) := by decide +kernel
theorem dX6_before_68 : decode cX6_before 68 = .ok (.goto 4, 3) := by decide +kernel
theorem dX6_before_71 : decode cX6_before 71 = .ok (.iconst 0, 1) := by decide +kernel
theorem dX6_before_72 : decode cX6_before 72 = .ok (.ireturn, 1) := by decide +kernel
theorem dX6_before_73 : decode cX6_before 73 = .ok (.iload_n 2, 1) := by decide +kernel
theorem dX6_before_74 : decode cX6_before 74 = .ok (.ifCond .eq 13, 3) := by decide +kernel
theorem dX6_before_77 : decode cX6_before 77 = .ok (.aload_n 0, 1) := by decide +kernel
theorem dX6_before_78 : decode cX6_before 78 = .ok (.getfield 35, 3) := by decide +kernel
theorem dX6_before_81 : decode cX6_before 81 = .ok (.getfield 136, 3) := by decide +kernel
theorem dX6_before_84 : decode cX6_before 84 = .ok (.goto 4, 3) := by decide +kernel
theorem dX6_before_87 : decode cX6_before 87 = .ok (.iconst (-1), 1) := by decide +kernel
theorem dX6_before_88 : decode cX6_before 88 = .ok (.ireturn, 1) := by decide +kernel
theorem dX6_before_89 : decode cX6_before 89 = .ok (.iload_n 2, 1) := by decide +kernel
theorem dX6_before_90 : decode cX6_before 90 = .ok (.ifCond .eq 21, 3) := by decide +kernel
theorem dX6_before_93 : decode cX6_before 93 = .ok (.aload_n 0, 1) := by decide +kernel
theorem dX6_before_94 : decode cX6_before 94 = .ok (.getfield 35, 3) := by decide +kernel
theorem dX6_before_97 : decode cX6_before 97 = .ok (.getfield 136, 3) := by decide +kernel
theorem dX6_before_100 : decode cX6_before 100 = .ok (.aload_n 0, 1) := by decide +kernel
theorem dX6_before_101 : decode cX6_before 101 = .ok (.getfield 16, 3) := by decide +kernel
theorem dX6_before_104 : decode cX6_before 104 = .ok (.getfield 192, 3) := by decide +kernel
theorem dX6_before_107 : decode cX6_before 107 = .ok (.ior, 1) := by decide +kernel
theorem dX6_before_108 : decode cX6_before 108 = .ok (.goto 4, 3) := by decide +kernel
theorem dX6_before_111 : decode cX6_before 111 = .ok (.iconst (-1), 1) := by decide +kernel
theorem dX6_before_112 : decode cX6_before 112 = .ok (.ireturn, 1) := by decide +kernel
theorem dX6_before_113 : decode cX6_before 113 = .ok (.iconst (-1), 1) := by decide +kernel
theorem dX6_before_114 : decode cX6_before 114 = .ok (.ireturn, 1) := by decide +kernel
set_option maxRecDepth 20000 in
theorem ggX6_image_X6_putPair : GoodIn wsX6_image wsX6_putPair := goodIn_r _ [11, 6, 15, 16, 17, 18, 19, 20, 21, 22, 23, 24, 25, 26, 27, 28, 29, 30, 31] rfl (by decide +kernel)
set_option maxRecDepth 20000 in
theorem gX6_image_X6_putPair : GoodIn wsX6_image (wsV RX6 336 RX6 yX6_putPair wsX6_putPair) := goodIn_app (goodIn_of _ (by decide +kernel)) ggX6_image_X6_putPair
set_option maxRecDepth 20000 in
theorem ggX6_image_X6_checkOf : GoodIn wsX6_image wsX6_checkOf := goodIn_r _ [14] rfl (by decide +kernel)
set_option maxRecDepth 20000 in
theorem gX6_image_X6_checkOf : GoodIn wsX6_image (va_wsS RX6 340 yX6_checkOf wsX6_checkOf) := goodIn_app (goodIn_of _ (by decide +kernel)) ggX6_image_X6_checkOf
theorem dX6_image_0 : decode cX6_image 0 = .ok (.aload_n 0, 1) := by decide +kernel
theorem dX6_image_1 : decode cX6_image 1 = .ok (.iconst 0, 1) := by decide +kernel
theorem dX6_image_2 : decode cX6_image 2 = .ok (.aload_n 0, 1) := by decide +kernel
theorem dX6_image_3 : decode cX6_image 3 = .ok (.getfield 35, 3) := by decide +kernel
theorem dX6_image_6 : decode cX6_image 6 = .ok (.getfield 146, 3) := by decide +kernel
theorem dX6_image_9 : decode cX6_image 9 = .ok (.invokevirtual 336, 3) := by decide +kernel
theorem dX6_image_12 : decode cX6_image 12 = .ok (.aload_n 0, 1) := by decide +kernel
theorem dX6_image_13 : decode cX6_image 13 = .ok (.iconst 2, 1) := by decide +kernel
theorem dX6_image_14 : decode cX6_image 14 = .ok (.aload_n 0, 1) := by decide +kernel
theorem dX6_image_15 : decode cX6_image 15 = .ok (.getfield 35, 3) := by decide +kernel
theorem dX6_image_18 : decode cX6_image 18 = .ok (.getfield 143, 3) := by decide +kernel
theorem dX6_image_21 : decode cX6_image 21 = .ok (.invokevirtual 336, 3) := by decide +kernel
theorem dX6_image_24 : decode cX6_image 24 = .ok (.aload_n 0, 1) := by decide +kernel
theorem dX6_image_25 : decode cX6_image 25 = .ok (.iconst 4, 1) := by decide +kernel
theorem dX6_image_26 : decode cX6_image 26 = .ok (.aload_n 0, 1) := by decide +kernel
theorem dX6_image_27 : decode cX6_image 27 = .ok (.getfield 35, 3) := by decide +kernel
theorem dX6_image_30 : decode cX6_image 30 = .ok (.getfield 140, 3) := by decide +kernel
theorem dX6_image_33 : decode cX6_image 33 = .ok (.invokevirtual 336, 3) := by decide +kernel
theorem dX6_image_36 : decode cX6_image 36 = .ok (.aload_n 0, 1) := by decide +kernel
theorem dX6_image_37 : decode cX6_image 37 = .ok (.bipush 6, 2) := by decide +kernel
theorem dX6_image_39 : decode cX6_image 39 = .ok (.aload_n 0, 1) := by decide +kernel
theorem dX6_image_40 : decode cX6_image 40 = .ok (.getfield 35, 3) := by decide +kernel
theorem dX6_image_43 : decode cX6_image 43 = .ok (.getfield 136, 3) := by decide +kernel
theorem dX6_image_46 : decode cX6_image 46 = .ok (.invokevirtual 336, 3) := by decide +kernel
theorem dX6_image_49 : decode cX6_image 49 = .ok (.aload_n 0, 1) := by decide +kernel
theorem dX6_image_50 : decode cX6_image 50 = .ok (.getfield 75, 3) := by decide +kernel
theorem dX6_image_53 : decode cX6_image 53 = .ok (.bipush 8, 2) := by decide +kernel
theorem dX6_image_55 : decode cX6_image 55 = .ok (.aload_n 0, 1) := by decide +kernel
theorem dX6_image_56 : decode cX6_image 56 = .ok (.getfield 75, 3) := by decide +kernel
theorem dX6_image_59 : decode cX6_image 59 = .ok (.invokestatic 340, 3) := by decide +kernel
theorem dX6_image_62 : decode cX6_image 62 = .ok (.iastore, 1) := by decide +kernel
theorem dX6_image_63 : decode cX6_image 63 = .ok (.bipush 9, 2) := by decide +kernel
theorem dX6_image_65 : decode cX6_image 65 = .ok (.ireturn, 1) := by decide +kernel
theorem dX6_octet_0 : decode cX6_octet 0 = .ok (.iload_n 1, 1) := by decide +kernel
theorem dX6_octet_1 : decode cX6_octet 1 = .ok (.ifCond .lt 21, 3) := by decide +kernel
theorem dX6_octet_4 : decode cX6_octet 4 = .ok (.iload_n 1, 1) := by decide +kernel
theorem dX6_octet_5 : decode cX6_octet 5 = .ok (.aload_n 0, 1) := by decide +kernel
theorem dX6_octet_6 : decode cX6_octet 6 = .ok (.getfield 75, 3) := by decide +kernel
theorem dX6_octet_9 : decode cX6_octet 9 = .ok (.arraylength, 1) := by decide +kernel
theorem dX6_octet_10 : decode cX6_octet 10 = .ok (.if_icmp .ge 12, 3) := by decide +kernel
theorem dX6_octet_13 : decode cX6_octet 13 = .ok (.aload_n 0, 1) := by decide +kernel
theorem dX6_octet_14 : decode cX6_octet 14 = .ok (.getfield 75, 3) := by decide +kernel
theorem dX6_octet_17 : decode cX6_octet 17 = .ok (.iload_n 1, 1) := by decide +kernel
theorem dX6_octet_18 : decode cX6_octet 18 = .ok (.iaload, 1) := by decide +kernel
theorem dX6_octet_19 : decode cX6_octet 19 = .ok (.goto 4, 3) := by decide +kernel
theorem dX6_octet_22 : decode cX6_octet 22 = .ok (.iconst (-1), 1) := by decide +kernel
theorem dX6_octet_23 : decode cX6_octet 23 = .ok (.ireturn, 1) := by decide +kernel
set_option maxRecDepth 20000 in
theorem ggX6_on_X6_takeTape : GoodIn wsX6_on wsX6_takeTape := goodIn_r _ [7, 8, 46, 47, 48, 49, 50, 51, 52, 53, 54, 55, 56, 57, 58, 59, 60, 61, 62] rfl (by decide +kernel)
set_option maxRecDepth 20000 in
theorem gX6_on_X6_takeTape : GoodIn wsX6_on (wsV RX6 103 RX6 yX6_takeTape wsX6_takeTape) := goodIn_app (goodIn_of _ (by decide +kernel)) ggX6_on_X6_takeTape
set_option maxRecDepth 20000 in
theorem ggX6_on_X6_isImage : GoodIn wsX6_on wsX6_isImage := goodIn_r _ [12, 13, 14, 15, 16, 17, 18, 6, 19, 20, 21, 22, 23, 46, 47, 48, 49, 50, 51, 52, 53, 54, 55, 56, 57, 58, 59, 60, 61, 62, 63, 64, 65, 66, 67, 68, 69, 70, 71, 72, 73, 74, 75, 76, 77, 78, 79, 80, 81, 82] rfl (by decide +kernel)
set_option maxRecDepth 20000 in
theorem gX6_on_X6_isImage : GoodIn wsX6_on (wsV RX6 344 RX6 yX6_isImage wsX6_isImage) := goodIn_app (goodIn_of _ (by decide +kernel)) ggX6_on_X6_isImage
set_option maxRecDepth 20000 in
theorem ggX6_on_X6_refuse : GoodIn wsX6_on wsX6_refuse := goodIn_r _ [27, 28, 46, 47, 48, 49, 50, 51, 52, 53, 54, 55, 56, 57, 58, 59, 60, 61, 62] rfl (by decide +kernel)
set_option maxRecDepth 20000 in
theorem gX6_on_X6_refuse : GoodIn wsX6_on (wsV RX6 95 RX6 yX6_refuse wsX6_refuse) := goodIn_app (goodIn_of _ (by decide +kernel)) ggX6_on_X6_refuse
set_option maxRecDepth 20000 in
theorem ggX6_on_X6_pairAt : GoodIn wsX6_on wsX6_pairAt := goodIn_r _ [23, 13, 46, 47, 48, 49, 50, 51, 52, 53, 54, 55, 56, 57, 58, 59, 60, 61, 62] rfl (by decide +kernel)
set_option maxRecDepth 20000 in
theorem gX6_on_X6_pairAt : GoodIn wsX6_on (wsV RX6 347 RX6 yX6_pairAt wsX6_pairAt) := goodIn_app (goodIn_of _ (by decide +kernel)) ggX6_on_X6_pairAt
set_option maxRecDepth 20000 in
theorem ggX6_on_X0_put : GoodIn wsX6_on wsX0_put := goodIn_r _ [33, 34, 35, 36, 37, 83, 84, 85, 86] rfl (by decide +kernel)
set_option maxRecDepth 20000 in
theorem gX6_on_X0_put : GoodIn wsX6_on (wsV RX6 350 RX0 yX0_put wsX0_put) := goodIn_app (goodIn_of _ (by decide +kernel)) ggX6_on_X0_put
set_option maxRecDepth 20000 in
theorem ggX6_on_X1_forget : GoodIn wsX6_on wsX1_forget := goodIn_r _ [42, 43, 44, 45, 87, 88, 89, 90, 91, 92] rfl (by decide +kernel)
set_option maxRecDepth 20000 in
theorem gX6_on_X1_forget : GoodIn wsX6_on (wsV RX6 354 RX1 yX1_forget wsX1_forget) := goodIn_app (goodIn_of _ (by decide +kernel)) ggX6_on_X1_forget
theorem dX6_on_0 : decode cX6_on 0 = .ok (.aload_n 0, 1) := by decide +kernel
theorem dX6_on_1 : decode cX6_on 1 = .ok (.aload_n 0, 1) := by decide +kernel
theorem dX6_on_2 : decode cX6_on 2 = .ok (.invokevirtual 103, 3) := by decide +kernel
theorem dX6_on_5 : decode cX6_on 5 = .ok (.invokevirtual 344, 3) := by decide +kernel
theorem dX6_on_8 : decode cX6_on 8 = .ok (.ifCond .ne 11, 3) := by decide +kernel
theorem dX6_on_11 : decode cX6_on 11 = .ok (.aload_n 0, 1) := by decide +kernel
theorem dX6_on_12 : decode cX6_on 12 = .ok (.iconst 5, 1) := by decide +kernel
theorem dX6_on_13 : decode cX6_on 13 = .ok (.invokevirtual 95, 3) := by decide +kernel
theorem dX6_on_16 : decode cX6_on 16 = .ok (.pop, 1) := by decide +kernel
theorem dX6_on_17 : decode cX6_on 17 = .ok (.iconst 0, 1) := by decide +kernel
theorem dX6_on_18 : decode cX6_on 18 = .ok (.ireturn, 1) := by decide +kernel
theorem dX6_on_19 : decode cX6_on 19 = .ok (.aload_n 0, 1) := by decide +kernel
theorem dX6_on_20 : decode cX6_on 20 = .ok (.getfield 35, 3) := by decide +kernel
theorem dX6_on_23 : decode cX6_on 23 = .ok (.aload_n 0, 1) := by decide +kernel
theorem dX6_on_24 : decode cX6_on 24 = .ok (.bipush 6, 2) := by decide +kernel
theorem dX6_on_26 : decode cX6_on 26 = .ok (.invokevirtual 347, 3) := by decide +kernel
theorem dX6_on_29 : decode cX6_on 29 = .ok (.aload_n 0, 1) := by decide +kernel
theorem dX6_on_30 : decode cX6_on 30 = .ok (.iconst 4, 1) := by decide +kernel
theorem dX6_on_31 : decode cX6_on 31 = .ok (.invokevirtual 347, 3) := by decide +kernel
theorem dX6_on_34 : decode cX6_on 34 = .ok (.aload_n 0, 1) := by decide +kernel
theorem dX6_on_35 : decode cX6_on 35 = .ok (.iconst 2, 1) := by decide +kernel
theorem dX6_on_36 : decode cX6_on 36 = .ok (.invokevirtual 347, 3) := by decide +kernel
theorem dX6_on_39 : decode cX6_on 39 = .ok (.aload_n 0, 1) := by decide +kernel
theorem dX6_on_40 : decode cX6_on 40 = .ok (.iconst 0, 1) := by decide +kernel
theorem dX6_on_41 : decode cX6_on 41 = .ok (.invokevirtual 347, 3) := by decide +kernel
theorem dX6_on_44 : decode cX6_on 44 = .ok (.invokevirtual 350, 3) := by decide +kernel
theorem dX6_on_47 : decode cX6_on 47 = .ok (.aload_n 0, 1) := by decide +kernel
theorem dX6_on_48 : decode cX6_on 48 = .ok (.getfield 45, 3) := by decide +kernel
theorem dX6_on_51 : decode cX6_on 51 = .ok (.invokevirtual 354, 3) := by decide +kernel
theorem dX6_on_54 : decode cX6_on 54 = .ok (.iconst 1, 1) := by decide +kernel
theorem dX6_on_55 : decode cX6_on 55 = .ok (.ireturn, 1) := by decide +kernel
theorem dX6_status_0 : decode cX6_status 0 = .ok (.iload_n 1, 1) := by decide +kernel
theorem dX6_status_1 : decode cX6_status 1 = .ok (.ifCond .lt 21, 3) := by decide +kernel
theorem dX6_status_4 : decode cX6_status 4 = .ok (.iload_n 1, 1) := by decide +kernel
theorem dX6_status_5 : decode cX6_status 5 = .ok (.aload_n 0, 1) := by decide +kernel
theorem dX6_status_6 : decode cX6_status 6 = .ok (.getfield 78, 3) := by decide +kernel
theorem dX6_status_9 : decode cX6_status 9 = .ok (.arraylength, 1) := by decide +kernel
theorem dX6_status_10 : decode cX6_status 10 = .ok (.if_icmp .ge 12, 3) := by decide +kernel
theorem dX6_status_13 : decode cX6_status 13 = .ok (.aload_n 0, 1) := by decide +kernel
theorem dX6_status_14 : decode cX6_status 14 = .ok (.getfield 78, 3) := by decide +kernel
theorem dX6_status_17 : decode cX6_status 17 = .ok (.iload_n 1, 1) := by decide +kernel
theorem dX6_status_18 : decode cX6_status 18 = .ok (.iaload, 1) := by decide +kernel
theorem dX6_status_19 : decode cX6_status 19 = .ok (.goto 4, 3) := by decide +kernel
theorem dX6_status_22 : decode cX6_status 22 = .ok (.iconst (-1), 1) := by decide +kernel
theorem dX6_status_23 : decode cX6_status 23 = .ok (.ireturn, 1) := by decide +kernel
theorem dX6_refuse_0 : decode cX6_refuse 0 = .ok (.iload_n 1, 1) := by decide +kernel
theorem dX6_refuse_1 : decode cX6_refuse 1 = .ok (.ifCond .lt 22, 3) := by decide +kernel
theorem dX6_refuse_4 : decode cX6_refuse 4 = .ok (.iload_n 1, 1) := by decide +kernel
theorem dX6_refuse_5 : decode cX6_refuse 5 = .ok (.aload_n 0, 1) := by decide +kernel
theorem dX6_refuse_6 : decode cX6_refuse 6 = .ok (.getfield 78, 3) := by decide +kernel
theorem dX6_refuse_9 : decode cX6_refuse 9 = .ok (.arraylength, 1) := by decide +kernel
theorem dX6_refuse_10 : decode cX6_refuse 10 = .ok (.if_icmp .ge 13, 3) := by decide +kernel
theorem dX6_refuse_13 : decode cX6_refuse 13 = .ok (.aload_n 0, 1) := by decide +kernel
theorem dX6_refuse_14 : decode cX6_refuse 14 = .ok (.getfield 78, 3) := by decide +kernel
theorem dX6_refuse_17 : decode cX6_refuse 17 = .ok (.iload_n 1, 1) := by decide +kernel
theorem dX6_refuse_18 : decode cX6_refuse 18 = .ok (.dup2, 1) := by decide +kernel
theorem dX6_refuse_19 : decode cX6_refuse 19 = .ok (.iaload, 1) := by decide +kernel
theorem dX6_refuse_20 : decode cX6_refuse 20 = .ok (.iconst 1, 1) := by decide +kernel
theorem dX6_refuse_21 : decode cX6_refuse 21 = .ok (.iadd, 1) := by decide +kernel
theorem dX6_refuse_22 : decode cX6_refuse 22 = .ok (.iastore, 1) := by decide +kernel
theorem dX6_refuse_23 : decode cX6_refuse 23 = .ok (.iconst (-1), 1) := by decide +kernel
theorem dX6_refuse_24 : decode cX6_refuse 24 = .ok (.ireturn, 1) := by decide +kernel
theorem dX6_feedNumber_0 : decode cX6_feedNumber 0 = .ok (.bipush 24, 2) := by decide +kernel
theorem dX6_feedNumber_2 : decode cX6_feedNumber 2 = .ok (.istore_n 2, 1) := by decide +kernel
theorem dX6_feedNumber_3 : decode cX6_feedNumber 3 = .ok (.iload_n 2, 1) := by decide +kernel
theorem dX6_feedNumber_4 : decode cX6_feedNumber 4 = .ok (.ifCond .lt 47, 3) := by decide +kernel
theorem dX6_feedNumber_7 : decode cX6_feedNumber 7 = .ok (.aload_n 0, 1) := by decide +kernel
theorem dX6_feedNumber_8 : decode cX6_feedNumber 8 = .ok (.getfield 92, 3) := by decide +kernel
theorem dX6_feedNumber_11 : decode cX6_feedNumber 11 = .ok (.aload_n 0, 1) := by decide +kernel
theorem dX6_feedNumber_12 : decode cX6_feedNumber 12 = .ok (.getfield 9, 3) := by decide +kernel
theorem dX6_feedNumber_15 : decode cX6_feedNumber 15 = .ok (.arraylength, 1) := by decide +kernel
theorem dX6_feedNumber_16 : decode cX6_feedNumber 16 = .ok (.if_icmp .ge 29, 3) := by decide +kernel
theorem dX6_feedNumber_19 : decode cX6_feedNumber 19 = .ok (.aload_n 0, 1) := by decide +kernel
theorem dX6_feedNumber_20 : decode cX6_feedNumber 20 = .ok (.getfield 9, 3) := by decide +kernel
theorem dX6_feedNumber_23 : decode cX6_feedNumber 23 = .ok (.aload_n 0, 1) := by decide +kernel
theorem dX6_feedNumber_24 : decode cX6_feedNumber 24 = .ok (.getfield 92, 3) := by decide +kernel
theorem dX6_feedNumber_27 : decode cX6_feedNumber 27 = .ok (.iload_n 1, 1) := by decide +kernel
theorem dX6_feedNumber_28 : decode cX6_feedNumber 28 = .ok (.iload_n 2, 1) := by decide +kernel
theorem dX6_feedNumber_29 : decode cX6_feedNumber 29 = .ok (.iushr, 1) := by decide +kernel
theorem dX6_feedNumber_30 : decode cX6_feedNumber 30 = .ok (.sipush 255, 3) := by decide +kernel
theorem dX6_feedNumber_33 : decode cX6_feedNumber 33 = .ok (.iand, 1) := by decide +kernel
theorem dX6_feedNumber_34 : decode cX6_feedNumber 34 = .ok (.iastore, 1) := by decide +kernel
theorem dX6_feedNumber_35 : decode cX6_feedNumber 35 = .ok (.aload_n 0, 1) := by decide +kernel
theorem dX6_feedNumber_36 : decode cX6_feedNumber 36 = .ok (.dup, 1) := by decide +kernel
theorem dX6_feedNumber_37 : decode cX6_feedNumber 37 = .ok (.getfield 92, 3) := by decide +kernel
theorem dX6_feedNumber_40 : decode cX6_feedNumber 40 = .ok (.iconst 1, 1) := by decide +kernel
theorem dX6_feedNumber_41 : decode cX6_feedNumber 41 = .ok (.iadd, 1) := by decide +kernel
theorem dX6_feedNumber_42 : decode cX6_feedNumber 42 = .ok (.putfield 92, 3) := by decide +kernel
theorem dX6_feedNumber_45 : decode cX6_feedNumber 45 = .ok (.iinc 2 (-8), 3) := by decide +kernel
theorem dX6_feedNumber_48 : decode cX6_feedNumber 48 = .ok (.goto (-45), 3) := by decide +kernel
theorem dX6_feedNumber_51 : decode cX6_feedNumber 51 = .ok (.return_, 1) := by decide +kernel
theorem dX6_takeTape_0 : decode cX6_takeTape 0 = .ok (.aload_n 0, 1) := by decide +kernel
theorem dX6_takeTape_1 : decode cX6_takeTape 1 = .ok (.getfield 92, 3) := by decide +kernel
theorem dX6_takeTape_4 : decode cX6_takeTape 4 = .ok (.istore_n 1, 1) := by decide +kernel
theorem dX6_takeTape_5 : decode cX6_takeTape 5 = .ok (.aload_n 0, 1) := by decide +kernel
theorem dX6_takeTape_6 : decode cX6_takeTape 6 = .ok (.iconst 0, 1) := by decide +kernel
theorem dX6_takeTape_7 : decode cX6_takeTape 7 = .ok (.putfield 92, 3) := by decide +kernel
theorem dX6_takeTape_10 : decode cX6_takeTape 10 = .ok (.iload_n 1, 1) := by decide +kernel
theorem dX6_takeTape_11 : decode cX6_takeTape 11 = .ok (.ireturn, 1) := by decide +kernel
set_option maxRecDepth 20000 in
theorem ggX6_beginAnew_X0_put : GoodIn wsX6_beginAnew wsX0_put := goodIn_r _ [16, 17, 18, 19, 20, 85, 86, 87, 88] rfl (by decide +kernel)
set_option maxRecDepth 20000 in
theorem gX6_beginAnew_X0_put : GoodIn wsX6_beginAnew (wsV RX6 350 RX0 yX0_put wsX0_put) := goodIn_app (goodIn_of _ (by decide +kernel)) ggX6_beginAnew_X0_put
set_option maxRecDepth 20000 in
theorem ggX6_beginAnew_X1_forget : GoodIn wsX6_beginAnew wsX1_forget := goodIn_r _ [25, 26, 27, 28, 89, 90, 91, 92, 93, 94] rfl (by decide +kernel)
set_option maxRecDepth 20000 in
theorem gX6_beginAnew_X1_forget : GoodIn wsX6_beginAnew (wsV RX6 354 RX1 yX1_forget wsX1_forget) := goodIn_app (goodIn_of _ (by decide +kernel)) ggX6_beginAnew_X1_forget
set_option maxRecDepth 20000 in
theorem ggX6_beginAnew_X3_forget : GoodIn wsX6_beginAnew wsX3_forget := goodIn_r _ [33, 34, 95, 96, 97, 98, 99, 100, 101] rfl (by decide +kernel)
set_option maxRecDepth 20000 in
theorem gX6_beginAnew_X3_forget : GoodIn wsX6_beginAnew (wsV RX6 357 RX3 yX3_forget wsX3_forget) := goodIn_app (goodIn_of _ (by decide +kernel)) ggX6_beginAnew_X3_forget
set_option maxRecDepth 20000 in
theorem ggX6_beginAnew_X4_forget : GoodIn wsX6_beginAnew wsX4_forget := goodIn_r _ [39, 40, 102, 103, 104, 105, 106, 107] rfl (by decide +kernel)
set_option maxRecDepth 20000 in
theorem gX6_beginAnew_X4_forget : GoodIn wsX6_beginAnew (wsV RX6 362 RX4 yX4_forget wsX4_forget) := goodIn_app (goodIn_of _ (by decide +kernel)) ggX6_beginAnew_X4_forget
set_option maxRecDepth 20000 in
theorem ggX6_beginAnew_J7_fill_53178 : GoodIn wsX6_beginAnew wsJ7_fill_53178 := goodIn_r _ [44] rfl (by decide +kernel)
set_option maxRecDepth 20000 in
theorem gX6_beginAnew_J7_fill_53178 : GoodIn wsX6_beginAnew (va_wsS RX6 81 yJ7_fill_53178 wsJ7_fill_53178) := goodIn_app (goodIn_of _ (by decide +kernel)) ggX6_beginAnew_J7_fill_53178
set_option maxRecDepth 20000 in
theorem ggX6_beginAnew_J7_fill_d0a16 : GoodIn wsX6_beginAnew wsJ7_fill_d0a16 := goodIn_r _ [47] rfl (by decide +kernel)
set_option maxRecDepth 20000 in
theorem gX6_beginAnew_J7_fill_d0a16 : GoodIn wsX6_beginAnew (va_wsS RX6 89 yJ7_fill_d0a16 wsJ7_fill_d0a16) := goodIn_app (goodIn_of _ (by decide +kernel)) ggX6_beginAnew_J7_fill_d0a16
theorem dX6_beginAnew_0 : decode cX6_beginAnew 0 = .ok (.aload_n 0, 1) := by decide +kernel
theorem dX6_beginAnew_1 : decode cX6_beginAnew 1 = .ok (.getfield 35, 3) := by decide +kernel
theorem dX6_beginAnew_4 : decode cX6_beginAnew 4 = .ok (.aload_n 0, 1) := by decide +kernel
theorem dX6_beginAnew_5 : decode cX6_beginAnew 5 = .ok (.getfield 16, 3) := by decide +kernel
theorem dX6_beginAnew_8 : decode cX6_beginAnew 8 = .ok (.getfield 195, 3) := by decide +kernel
theorem dX6_beginAnew_11 : decode cX6_beginAnew 11 = .ok (.iconst 0, 1) := by decide +kernel
theorem dX6_beginAnew_12 : decode cX6_beginAnew 12 = .ok (.iconst 0, 1) := by decide +kernel
theorem dX6_beginAnew_13 : decode cX6_beginAnew 13 = .ok (.iconst 0, 1) := by decide +kernel
theorem dX6_beginAnew_14 : decode cX6_beginAnew 14 = .ok (.invokevirtual 350, 3) := by decide +kernel
theorem dX6_beginAnew_17 : decode cX6_beginAnew 17 = .ok (.aload_n 0, 1) := by decide +kernel
theorem dX6_beginAnew_18 : decode cX6_beginAnew 18 = .ok (.getfield 45, 3) := by decide +kernel
theorem dX6_beginAnew_21 : decode cX6_beginAnew 21 = .ok (.invokevirtual 354, 3) := by decide +kernel
theorem dX6_beginAnew_24 : decode cX6_beginAnew 24 = .ok (.aload_n 0, 1) := by decide +kernel
theorem dX6_beginAnew_25 : decode cX6_beginAnew 25 = .ok (.getfield 54, 3) := by decide +kernel
theorem dX6_beginAnew_28 : decode cX6_beginAnew 28 = .ok (.invokevirtual 357, 3) := by decide +kernel
theorem dX6_beginAnew_31 : decode cX6_beginAnew 31 = .ok (.aload_n 0, 1) := by decide +kernel
theorem dX6_beginAnew_32 : decode cX6_beginAnew 32 = .ok (.getfield 358, 3) := by decide +kernel
theorem dX6_beginAnew_35 : decode cX6_beginAnew 35 = .ok (.ifnull 10, 3) := by decide +kernel
theorem dX6_beginAnew_38 : decode cX6_beginAnew 38 = .ok (.aload_n 0, 1) := by decide +kernel
theorem dX6_beginAnew_39 : decode cX6_beginAnew 39 = .ok (.getfield 358, 3) := by decide +kernel
theorem dX6_beginAnew_42 : decode cX6_beginAnew 42 = .ok (.invokevirtual 362, 3) := by decide +kernel
theorem dX6_beginAnew_45 : decode cX6_beginAnew 45 = .ok (.aload_n 0, 1) := by decide +kernel
theorem dX6_beginAnew_46 : decode cX6_beginAnew 46 = .ok (.iconst 1, 1) := by decide +kernel
theorem dX6_beginAnew_47 : decode cX6_beginAnew 47 = .ok (.putfield 62, 3) := by decide +kernel
theorem dX6_beginAnew_50 : decode cX6_beginAnew 50 = .ok (.aload_n 0, 1) := by decide +kernel
theorem dX6_beginAnew_51 : decode cX6_beginAnew 51 = .ok (.sipush 999, 3) := by decide +kernel
theorem dX6_beginAnew_54 : decode cX6_beginAnew 54 = .ok (.putfield 65, 3) := by decide +kernel
theorem dX6_beginAnew_57 : decode cX6_beginAnew 57 = .ok (.aload_n 0, 1) := by decide +kernel
theorem dX6_beginAnew_58 : decode cX6_beginAnew 58 = .ok (.getfield 68, 3) := by decide +kernel
theorem dX6_beginAnew_61 : decode cX6_beginAnew 61 = .ok (.iconst (-1), 1) := by decide +kernel
theorem dX6_beginAnew_62 : decode cX6_beginAnew 62 = .ok (.invokestatic 81, 3) := by decide +kernel
theorem dX6_beginAnew_65 : decode cX6_beginAnew 65 = .ok (.aload_n 0, 1) := by decide +kernel
theorem dX6_beginAnew_66 : decode cX6_beginAnew 66 = .ok (.getfield 71, 3) := by decide +kernel
theorem dX6_beginAnew_69 : decode cX6_beginAnew 69 = .ok (.ldc2_w 87, 3) := by decide +kernel
theorem dX6_beginAnew_72 : decode cX6_beginAnew 72 = .ok (.invokestatic 89, 3) := by decide +kernel
theorem dX6_beginAnew_75 : decode cX6_beginAnew 75 = .ok (.return_, 1) := by decide +kernel
theorem dX6_isThing_0 : decode cX6_isThing 0 = .ok (.iload_n 1, 1) := by decide +kernel
theorem dX6_isThing_1 : decode cX6_isThing 1 = .ok (.ifCond .lt 18, 3) := by decide +kernel
theorem dX6_isThing_4 : decode cX6_isThing 4 = .ok (.iload_n 1, 1) := by decide +kernel
theorem dX6_isThing_5 : decode cX6_isThing 5 = .ok (.aload_n 0, 1) := by decide +kernel
theorem dX6_isThing_6 : decode cX6_isThing 6 = .ok (.getfield 16, 3) := by decide +kernel
theorem dX6_isThing_9 : decode cX6_isThing 9 = .ok (.getfield 130, 3) := by decide +kernel
theorem dX6_isThing_12 : decode cX6_isThing 12 = .ok (.if_icmp .ge 7, 3) := by decide +kernel
theorem dX6_isThing_15 : decode cX6_isThing 15 = .ok (.iconst 1, 1) := by decide +kernel
theorem dX6_isThing_16 : decode cX6_isThing 16 = .ok (.goto 4, 3) := by decide +kernel
theorem dX6_isThing_19 : decode cX6_isThing 19 = .ok (.iconst 0, 1) := by decide +kernel
theorem dX6_isThing_20 : decode cX6_isThing 20 = .ok (.ireturn, 1) := by decide +kernel
theorem dX6_isWish_0 : decode cX6_isWish 0 = .ok (.iload_n 1, 1) := by decide +kernel
theorem dX6_isWish_1 : decode cX6_isWish 1 = .ok (.ifCond .lt 18, 3) := by decide +kernel
theorem dX6_isWish_4 : decode cX6_isWish 4 = .ok (.iload_n 1, 1) := by decide +kernel
theorem dX6_isWish_5 : decode cX6_isWish 5 = .ok (.aload_n 0, 1) := by decide +kernel
theorem dX6_isWish_6 : decode cX6_isWish 6 = .ok (.getfield 16, 3) := by decide +kernel
theorem dX6_isWish_9 : decode cX6_isWish 9 = .ok (.getfield 133, 3) := by decide +kernel
theorem dX6_isWish_12 : decode cX6_isWish 12 = .ok (.if_icmp .ge 7, 3) := by decide +kernel
theorem dX6_isWish_15 : decode cX6_isWish 15 = .ok (.iconst 1, 1) := by decide +kernel
theorem dX6_isWish_16 : decode cX6_isWish 16 = .ok (.goto 4, 3) := by decide +kernel
theorem dX6_isWish_19 : decode cX6_isWish 19 = .ok (.iconst 0, 1) := by decide +kernel
theorem dX6_isWish_20 : decode cX6_isWish 20 = .ok (.ireturn, 1) := by decide +kernel
theorem dX6_letterOf_0 : decode cX6_letterOf 0 = .ok (.iload_n 0, 1) := by decide +kernel
theorem dX6_letterOf_1 : decode cX6_letterOf 1 = .ok (.istore_n 2, 1) := by decide +kernel
theorem dX6_letterOf_2 : decode cX6_letterOf 2 = .ok (.iconst 0, 1) := by decide +kernel
theorem dX6_letterOf_3 : decode cX6_letterOf 3 = .ok (.istore_n 3, 1) := by decide +kernel
theorem dX6_letterOf_4 : decode cX6_letterOf 4 = .ok (.iload_n 3, 1) := by decide +kernel
theorem dX6_letterOf_5 : decode cX6_letterOf 5 = .ok (.iload_n 1, 1) := by decide +kernel
theorem dX6_letterOf_6 : decode cX6_letterOf 6 = .ok (.if_icmp .ge 14, 3) := by decide +kernel
theorem dX6_letterOf_9 : decode cX6_letterOf 9 = .ok (.iload_n 2, 1) := by decide +kernel
theorem dX6_letterOf_10 : decode cX6_letterOf 10 = .ok (.bipush 27, 2) := by decide +kernel
theorem dX6_letterOf_12 : decode cX6_letterOf 12 = .ok (.idiv, 1) := by decide +kernel
theorem dX6_letterOf_13 : decode cX6_letterOf 13 = .ok (.istore_n 2, 1) := by decide +kernel
theorem dX6_letterOf_14 : decode cX6_letterOf 14 = .ok (.iinc 3 1, 3) := by decide +kernel
theorem dX6_letterOf_17 : decode cX6_letterOf 17 = .ok (.goto (-13), 3) := by decide +kernel
theorem dX6_letterOf_20 : decode cX6_letterOf 20 = .ok (.iload_n 2, 1) := by decide +kernel
theorem dX6_letterOf_21 : decode cX6_letterOf 21 = .ok (.bipush 27, 2) := by decide +kernel
theorem dX6_letterOf_23 : decode cX6_letterOf 23 = .ok (.irem, 1) := by decide +kernel
theorem dX6_letterOf_24 : decode cX6_letterOf 24 = .ok (.ireturn, 1) := by decide +kernel
set_option maxRecDepth 20000 in
theorem ggX6_namesWishes_X6_isWish : GoodIn wsX6_namesWishes wsX6_isWish := goodIn_r _ [6, 7, 8, 9, 10, 11, 12, 13, 14, 15, 16, 17, 18, 19, 20, 21, 22, 23, 24, 25, 26, 27, 28, 29, 30, 31, 32, 33, 34, 35, 36, 37, 38, 39, 40, 41, 42, 43, 44, 45] rfl (by decide +kernel)
set_option maxRecDepth 20000 in
theorem gX6_namesWishes_X6_isWish : GoodIn wsX6_namesWishes (wsV RX6 180 RX6 yX6_isWish wsX6_isWish) := goodIn_app (goodIn_of _ (by decide +kernel)) ggX6_namesWishes_X6_isWish
theorem dX6_namesWishes_0 : decode cX6_namesWishes 0 = .ok (.iconst 0, 1) := by decide +kernel
theorem dX6_namesWishes_1 : decode cX6_namesWishes 1 = .ok (.istore_n 3, 1) := by decide +kernel
theorem dX6_namesWishes_2 : decode cX6_namesWishes 2 = .ok (.iload_n 3, 1) := by decide +kernel
theorem dX6_namesWishes_3 : decode cX6_namesWishes 3 = .ok (.iload_n 1, 1) := by decide +kernel
theorem dX6_namesWishes_4 : decode cX6_namesWishes 4 = .ok (.if_icmp .ge 43, 3) := by decide +kernel
theorem dX6_namesWishes_7 : decode cX6_namesWishes 7 = .ok (.iload_n 3, 1) := by decide +kernel
theorem dX6_namesWishes_8 : decode cX6_namesWishes 8 = .ok (.aload_n 0, 1) := by decide +kernel
theorem dX6_namesWishes_9 : decode cX6_namesWishes 9 = .ok (.getfield 9, 3) := by decide +kernel
theorem dX6_namesWishes_12 : decode cX6_namesWishes 12 = .ok (.arraylength, 1) := by decide +kernel
theorem dX6_namesWishes_13 : decode cX6_namesWishes 13 = .ok (.if_icmp .ge 34, 3) := by decide +kernel
theorem dX6_namesWishes_16 : decode cX6_namesWishes 16 = .ok (.aload_n 0, 1) := by decide +kernel
theorem dX6_namesWishes_17 : decode cX6_namesWishes 17 = .ok (.aload_n 0, 1) := by decide +kernel
theorem dX6_namesWishes_18 : decode cX6_namesWishes 18 = .ok (.getfield 9, 3) := by decide +kernel
theorem dX6_namesWishes_21 : decode cX6_namesWishes 21 = .ok (.iload_n 3, 1) := by decide +kernel
theorem dX6_namesWishes_22 : decode cX6_namesWishes 22 = .ok (.iaload, 1) := by decide +kernel
theorem dX6_namesWishes_23 : decode cX6_namesWishes 23 = .ok (.invokevirtual 180, 3) := by decide +kernel
theorem dX6_namesWishes_26 : decode cX6_namesWishes 26 = .ok (.ifCond .ne 15, 3) := by decide +kernel
theorem dX6_namesWishes_29 : decode cX6_namesWishes 29 = .ok (.aload_n 0, 1) := by decide +kernel
theorem dX6_namesWishes_30 : decode cX6_namesWishes 30 = .ok (.getfield 9, 3) := by decide +kernel
theorem dX6_namesWishes_33 : decode cX6_namesWishes 33 = .ok (.iload_n 3, 1) := by decide +kernel
theorem dX6_namesWishes_34 : decode cX6_namesWishes 34 = .ok (.iaload, 1) := by decide +kernel
theorem dX6_namesWishes_35 : decode cX6_namesWishes 35 = .ok (.iload_n 2, 1) := by decide +kernel
theorem dX6_namesWishes_36 : decode cX6_namesWishes 36 = .ok (.if_icmp .eq 5, 3) := by decide +kernel
theorem dX6_namesWishes_39 : decode cX6_namesWishes 39 = .ok (.iconst 0, 1) := by decide +kernel
theorem dX6_namesWishes_40 : decode cX6_namesWishes 40 = .ok (.ireturn, 1) := by decide +kernel
theorem dX6_namesWishes_41 : decode cX6_namesWishes 41 = .ok (.iinc 3 1, 3) := by decide +kernel
theorem dX6_namesWishes_44 : decode cX6_namesWishes 44 = .ok (.goto (-42), 3) := by decide +kernel
theorem dX6_namesWishes_47 : decode cX6_namesWishes 47 = .ok (.iconst 1, 1) := by decide +kernel
theorem dX6_namesWishes_48 : decode cX6_namesWishes 48 = .ok (.ireturn, 1) := by decide +kernel
set_option maxRecDepth 20000 in
theorem ggX6_grant_X5_seaBehind : GoodIn wsX6_grant wsX5_seaBehind := goodIn_r _ [12, 13, 14, 15, 16, 11, 17, 18, 19, 20, 21, 22, 23, 24, 25, 26, 27, 28, 29, 30, 31, 32, 33, 34, 35, 36, 37, 38, 39, 40, 41, 42, 43, 44, 45, 46, 47, 48, 49, 50, 51, 52, 53, 54, 55, 56, 57, 58, 59, 60, 61, 62, 63, 64, 65, 66, 67, 68, 69, 70, 71, 72, 73, 74, 75, 76, 77, 78, 79, 80, 81, 82, 83, 84, 85, 86, 87, 88, 152, 153, 154, 155, 132, 133, 134, 135, 136, 137, 138, 139, 140, 141, 142, 143, 144, 145, 146, 147, 148, 149, 150, 151] rfl (by decide +kernel)
set_option maxRecDepth 20000 in
theorem gX6_grant_X5_seaBehind : GoodIn wsX6_grant (wsV RX6 309 RX5 yX5_seaBehind wsX5_seaBehind) := goodIn_app (goodIn_of _ (by decide +kernel)) ggX6_grant_X5_seaBehind
set_option maxRecDepth 20000 in
theorem ggX6_grant_X0_put : GoodIn wsX6_grant wsX0_put := goodIn_r _ [93, 94, 95, 96, 97, 152, 153, 154, 155] rfl (by decide +kernel)
set_option maxRecDepth 20000 in
theorem gX6_grant_X0_put : GoodIn wsX6_grant (wsV RX6 350 RX0 yX0_put wsX0_put) := goodIn_app (goodIn_of _ (by decide +kernel)) ggX6_grant_X0_put
set_option maxRecDepth 20000 in
theorem ggX6_grant_X5_grantAt : GoodIn wsX6_grant wsX5_grantAt := goodIn_r _ [101, 44, 45, 46, 102, 103, 104, 11, 105, 64, 106, 70, 107, 90, 91, 92, 93, 94, 95, 96, 97, 152, 153, 154, 155, 132, 133, 134, 135, 136, 137, 138, 139, 140, 141, 142, 143, 144, 145, 146, 147, 148, 149, 150, 151] rfl (by decide +kernel)
set_option maxRecDepth 20000 in
theorem gX6_grant_X5_grantAt : GoodIn wsX6_grant (wsV RX6 312 RX5 yX5_grantAt wsX5_grantAt) := goodIn_app (goodIn_of _ (by decide +kernel)) ggX6_grant_X5_grantAt
set_option maxRecDepth 20000 in
theorem ggX6_grant_X1_keep : GoodIn wsX6_grant wsX1_keep := goodIn_r _ [112, 113, 114, 156, 157, 158, 159, 160, 161] rfl (by decide +kernel)
set_option maxRecDepth 20000 in
theorem gX6_grant_X1_keep : GoodIn wsX6_grant (wsV RX6 363 RX1 yX1_keep wsX1_keep) := goodIn_app (goodIn_of _ (by decide +kernel)) ggX6_grant_X1_keep
theorem dX6_grant_0 : decode cX6_grant 0 = .ok (.aload_n 0, 1) := by decide +kernel
theorem dX6_grant_1 : decode cX6_grant 1 = .ok (.getfield 16, 3) := by decide +kernel
theorem dX6_grant_4 : decode cX6_grant 4 = .ok (.aload_n 0, 1) := by decide +kernel
theorem dX6_grant_5 : decode cX6_grant 5 = .ok (.getfield 35, 3) := by decide +kernel
theorem dX6_grant_8 : decode cX6_grant 8 = .ok (.iload_n 1, 1) := by decide +kernel
theorem dX6_grant_9 : decode cX6_grant 9 = .ok (.invokevirtual 309, 3) := by decide +kernel
theorem dX6_grant_12 : decode cX6_grant 12 = .ok (.istore_n 2, 1) := by decide +kernel
theorem dX6_grant_13 : decode cX6_grant 13 = .ok (.iload_n 2, 1) := by decide +kernel
theorem dX6_grant_14 : decode cX6_grant 14 = .ok (.aload_n 0, 1) := by decide +kernel
theorem dX6_grant_15 : decode cX6_grant 15 = .ok (.getfield 16, 3) := by decide +kernel
theorem dX6_grant_18 : decode cX6_grant 18 = .ok (.getfield 157, 3) := by decide +kernel
theorem dX6_grant_21 : decode cX6_grant 21 = .ok (.if_icmp .le 7, 3) := by decide +kernel
theorem dX6_grant_24 : decode cX6_grant 24 = .ok (.iconst 1, 1) := by decide +kernel
theorem dX6_grant_25 : decode cX6_grant 25 = .ok (.goto 4, 3) := by decide +kernel
theorem dX6_grant_28 : decode cX6_grant 28 = .ok (.iconst 0, 1) := by decide +kernel
theorem dX6_grant_29 : decode cX6_grant 29 = .ok (.istore_n 3, 1) := by decide +kernel
theorem dX6_grant_30 : decode cX6_grant 30 = .ok (.iload_n 3, 1) := by decide +kernel
theorem dX6_grant_31 : decode cX6_grant 31 = .ok (.ifCond .eq 29, 3) := by decide +kernel
theorem dX6_grant_34 : decode cX6_grant 34 = .ok (.aload_n 0, 1) := by decide +kernel
theorem dX6_grant_35 : decode cX6_grant 35 = .ok (.getfield 35, 3) := by decide +kernel
theorem dX6_grant_38 : decode cX6_grant 38 = .ok (.aload_n 0, 1) := by decide +kernel
theorem dX6_grant_39 : decode cX6_grant 39 = .ok (.getfield 16, 3) := by decide +kernel
theorem dX6_grant_42 : decode cX6_grant 42 = .ok (.getfield 195, 3) := by decide +kernel
theorem dX6_grant_45 : decode cX6_grant 45 = .ok (.iconst 0, 1) := by decide +kernel
theorem dX6_grant_46 : decode cX6_grant 46 = .ok (.iconst 0, 1) := by decide +kernel
theorem dX6_grant_47 : decode cX6_grant 47 = .ok (.aload_n 0, 1) := by decide +kernel
theorem dX6_grant_48 : decode cX6_grant 48 = .ok (.getfield 35, 3) := by decide +kernel
theorem dX6_grant_51 : decode cX6_grant 51 = .ok (.getfield 146, 3) := by decide +kernel
theorem dX6_grant_54 : decode cX6_grant 54 = .ok (.invokevirtual 350, 3) := by decide +kernel
theorem dX6_grant_57 : decode cX6_grant 57 = .ok (.goto 16, 3) := by decide +kernel
theorem dX6_grant_60 : decode cX6_grant 60 = .ok (.aload_n 0, 1) := by decide +kernel
theorem dX6_grant_61 : decode cX6_grant 61 = .ok (.getfield 16, 3) := by decide +kernel
theorem dX6_grant_64 : decode cX6_grant 64 = .ok (.aload_n 0, 1) := by decide +kernel
theorem dX6_grant_65 : decode cX6_grant 65 = .ok (.getfield 35, 3) := by decide +kernel
theorem dX6_grant_68 : decode cX6_grant 68 = .ok (.iload_n 1, 1) := by decide +kernel
theorem dX6_grant_69 : decode cX6_grant 69 = .ok (.iload_n 2, 1) := by decide +kernel
theorem dX6_grant_70 : decode cX6_grant 70 = .ok (.invokevirtual 312, 3) := by decide +kernel
theorem dX6_grant_73 : decode cX6_grant 73 = .ok (.aload_n 0, 1) := by decide +kernel
theorem dX6_grant_74 : decode cX6_grant 74 = .ok (.getfield 45, 3) := by decide +kernel
theorem dX6_grant_77 : decode cX6_grant 77 = .ok (.aload_n 0, 1) := by decide +kernel
theorem dX6_grant_78 : decode cX6_grant 78 = .ok (.getfield 35, 3) := by decide +kernel
theorem dX6_grant_81 : decode cX6_grant 81 = .ok (.getfield 146, 3) := by decide +kernel
theorem dX6_grant_84 : decode cX6_grant 84 = .ok (.iload_n 1, 1) := by decide +kernel
theorem dX6_grant_85 : decode cX6_grant 85 = .ok (.aload_n 0, 1) := by decide +kernel
theorem dX6_grant_86 : decode cX6_grant 86 = .ok (.getfield 35, 3) := by decide +kernel
theorem dX6_grant_89 : decode cX6_grant 89 = .ok (.getfield 140, 3) := by decide +kernel
theorem dX6_grant_92 : decode cX6_grant 92 = .ok (.iload_n 3, 1) := by decide +kernel
theorem dX6_grant_93 : decode cX6_grant 93 = .ok (.invokevirtual 363, 3) := by decide +kernel
theorem dX6_grant_96 : decode cX6_grant 96 = .ok (.return_, 1) := by decide +kernel
theorem dX6_draw_0 : decode cX6_draw 0 = .ok (.aload_n 0, 1) := by decide +kernel
theorem dX6_draw_1 : decode cX6_draw 1 = .ok (.ldc2_w 367, 3) := by decide +kernel
theorem dX6_draw_4 : decode cX6_draw 4 = .ok (.aload_n 0, 1) := by decide +kernel
theorem dX6_draw_5 : decode cX6_draw 5 = .ok (.getfield 58, 3) := by decide +kernel
theorem dX6_draw_8 : decode cX6_draw 8 = .ok (.i2l, 1) := by decide +kernel
theorem dX6_draw_9 : decode cX6_draw 9 = .ok (.lmul, 1) := by decide +kernel
theorem dX6_draw_10 : decode cX6_draw 10 = .ok (.ldc2_w 369, 3) := by decide +kernel
theorem dX6_draw_13 : decode cX6_draw 13 = .ok (.ladd, 1) := by decide +kernel
theorem dX6_draw_14 : decode cX6_draw 14 = .ok (.ldc2_w 371, 3) := by decide +kernel
theorem dX6_draw_17 : decode cX6_draw 17 = .ok (.land, 1) := by decide +kernel
theorem dX6_draw_18 : decode cX6_draw 18 = .ok (.l2i, 1) := by decide +kernel
theorem dX6_draw_19 : decode cX6_draw 19 = .ok (.putfield 58, 3) := by decide +kernel
theorem dX6_draw_22 : decode cX6_draw 22 = .ok (.iload_n 1, 1) := by decide +kernel
theorem dX6_draw_23 : decode cX6_draw 23 = .ok (.ifCond .le 15, 3) := by decide +kernel
theorem dX6_draw_26 : decode cX6_draw 26 = .ok (.aload_n 0, 1) := by decide +kernel
theorem dX6_draw_27 : decode cX6_draw 27 = .ok (.getfield 58, 3) := by decide +kernel
theorem dX6_draw_30 : decode cX6_draw 30 = .ok (.bipush 6, 2) := by decide +kernel
theorem dX6_draw_32 : decode cX6_draw 32 = .ok (.ishr, 1) := by decide +kernel
theorem dX6_draw_33 : decode cX6_draw 33 = .ok (.iload_n 1, 1) := by decide +kernel
theorem dX6_draw_34 : decode cX6_draw 34 = .ok (.irem, 1) := by decide +kernel
theorem dX6_draw_35 : decode cX6_draw 35 = .ok (.goto 4, 3) := by decide +kernel
theorem dX6_draw_38 : decode cX6_draw 38 = .ok (.iconst 0, 1) := by decide +kernel
theorem dX6_draw_39 : decode cX6_draw 39 = .ok (.ireturn, 1) := by decide +kernel
set_option maxRecDepth 20000 in
theorem ggX6_dayBySeed_X6_draw : GoodIn wsX6_dayBySeed wsX6_draw := goodIn_r _ [7, 8, 9, 10, 11, 159, 160, 161, 162, 163, 164, 165, 166, 167, 168, 169, 170, 171, 172, 173, 174, 175] rfl (by decide +kernel)
set_option maxRecDepth 20000 in
theorem gX6_dayBySeed_X6_draw : GoodIn wsX6_dayBySeed (wsV RX6 373 RX6 yX6_draw wsX6_draw) := goodIn_app (goodIn_of _ (by decide +kernel)) ggX6_dayBySeed_X6_draw
set_option maxRecDepth 20000 in
theorem ggX6_dayBySeed_X5_mayBeSaid : GoodIn wsX6_dayBySeed wsX5_mayBeSaid := goodIn_r _ [16, 17, 18, 19, 20, 21, 15, 22, 23, 24, 25, 26, 27, 28, 29, 30, 31, 32, 33, 34, 35, 36, 37, 38, 39, 40, 41, 42, 43, 44, 45, 46, 47, 48, 49, 50, 51, 52, 53, 54, 55, 56, 57, 58, 59, 60, 61, 62, 63, 64, 65, 66, 67, 68, 69, 70, 71, 72, 73, 74, 75, 76, 77, 78, 79, 80, 81, 82, 83, 84, 85, 86, 87, 88, 89, 90, 91, 92, 93, 94, 95, 96, 97, 98, 99, 100, 101, 102, 103, 104, 105, 106, 176, 177, 178, 179, 180, 181, 182, 183, 184, 185, 186, 187, 188, 189, 190, 191, 192, 193, 194, 195, 196, 197, 198, 199] rfl (by decide +kernel)
set_option maxRecDepth 20000 in
theorem gX6_dayBySeed_X5_mayBeSaid : GoodIn wsX6_dayBySeed (wsV RX6 376 RX5 yX5_mayBeSaid wsX5_mayBeSaid) := goodIn_app (goodIn_of _ (by decide +kernel)) ggX6_dayBySeed_X5_mayBeSaid
set_option maxRecDepth 20000 in
theorem ggX6_dayBySeed_J6_bitCount_0f7a4 : GoodIn wsX6_dayBySeed wsJ6_bitCount_0f7a4 := goodIn_r _ [58, 59, 60, 61] rfl (by decide +kernel)
set_option maxRecDepth 20000 in
theorem gX6_dayBySeed_J6_bitCount_0f7a4 : GoodIn wsX6_dayBySeed (va_wsS RX6 331 yJ6_bitCount_0f7a4 wsJ6_bitCount_0f7a4) := goodIn_app (goodIn_of _ (by decide +kernel)) ggX6_dayBySeed_J6_bitCount_0f7a4
set_option maxRecDepth 20000 in
theorem ggX6_dayBySeed_X6_pick : GoodIn wsX6_dayBySeed wsX6_pick := goodIn_r _ [110] rfl (by decide +kernel)
set_option maxRecDepth 20000 in
theorem gX6_dayBySeed_X6_pick : GoodIn wsX6_dayBySeed (va_wsS RX6 379 yX6_pick wsX6_pick) := goodIn_app (goodIn_of _ (by decide +kernel)) ggX6_dayBySeed_X6_pick
set_option maxRecDepth 20000 in
theorem ggX6_dayBySeed_X6_grant : GoodIn wsX6_dayBySeed wsX6_grant := goodIn_r _ [114, 1, 2, 115, 116, 117, 118, 119, 120, 121, 122, 15, 123, 46, 124, 125, 126, 127, 34, 35, 36, 37, 76, 77, 78, 23, 24, 25, 26, 27, 28, 29, 30, 31, 32, 33, 38, 39, 40, 41, 42, 43, 44, 45, 18, 47, 48, 49, 50, 51, 52, 53, 54, 55, 56, 57, 58, 59, 60, 61, 62, 63, 64, 65, 17, 66, 67, 68, 69, 70, 71, 72, 73, 74, 75, 79, 80, 81, 82, 83, 84, 85, 86, 87, 88, 89, 90, 91, 92, 128, 129, 130, 131, 132, 133, 134, 135, 136, 137, 138, 139, 140, 141, 142, 143, 144, 102, 145, 146, 147, 148, 149, 150, 151, 152, 159, 160, 161, 162, 163, 164, 165, 166, 167, 168, 169, 170, 171, 172, 173, 174, 175, 176, 177, 178, 179, 180, 181, 182, 183, 184, 185, 186, 187, 188, 189, 190, 191, 192, 193, 194, 195, 196, 197, 198, 199, 200, 201, 202, 203, 204, 205] rfl (by decide +kernel)
set_option maxRecDepth 20000 in
theorem gX6_dayBySeed_X6_grant : GoodIn wsX6_dayBySeed (wsV RX6 230 RX6 yX6_grant wsX6_grant) := goodIn_app (goodIn_of _ (by decide +kernel)) ggX6_dayBySeed_X6_grant
set_option maxRecDepth 20000 in
theorem ggX6_dayBySeed_X5_endDay : GoodIn wsX6_dayBySeed wsX5_endDay := goodIn_r _ [156, 18, 157, 46, 158, 76, 77, 36, 78, 48, 145, 129, 130, 131, 132, 133, 134, 135, 136, 196, 197, 198, 199, 176, 177, 178, 179, 180, 181, 182, 183, 184, 185, 186, 187, 188, 189, 190, 191, 192, 193, 194, 195] rfl (by decide +kernel)
set_option maxRecDepth 20000 in
theorem gX6_dayBySeed_X5_endDay : GoodIn wsX6_dayBySeed (wsV RX6 233 RX5 yX5_endDay wsX5_endDay) := goodIn_app (goodIn_of _ (by decide +kernel)) ggX6_dayBySeed_X5_endDay
theorem dX6_dayBySeed_0 : decode cX6_dayBySeed 0 = .ok (.iconst 0, 1) := by decide +kernel
theorem dX6_dayBySeed_1 : decode cX6_dayBySeed 1 = .ok (.istore_n 1, 1) := by decide +kernel
theorem dX6_dayBySeed_2 : decode cX6_dayBySeed 2 = .ok (.aload_n 0, 1) := by decide +kernel
theorem dX6_dayBySeed_3 : decode cX6_dayBySeed 3 = .ok (.iconst 4, 1) := by decide +kernel
theorem dX6_dayBySeed_4 : decode cX6_dayBySeed 4 = .ok (.invokevirtual 373, 3) := by decide +kernel
theorem dX6_dayBySeed_7 : decode cX6_dayBySeed 7 = .ok (.istore_n 2, 1) := by decide +kernel
theorem dX6_dayBySeed_8 : decode cX6_dayBySeed 8 = .ok (.iconst 0, 1) := by decide +kernel
theorem dX6_dayBySeed_9 : decode cX6_dayBySeed 9 = .ok (.istore_n 3, 1) := by decide +kernel
theorem dX6_dayBySeed_10 : decode cX6_dayBySeed 10 = .ok (.iload_n 3, 1) := by decide +kernel
theorem dX6_dayBySeed_11 : decode cX6_dayBySeed 11 = .ok (.iload_n 2, 1) := by decide +kernel
theorem dX6_dayBySeed_12 : decode cX6_dayBySeed 12 = .ok (.if_icmp .ge 48, 3) := by decide +kernel
theorem dX6_dayBySeed_15 : decode cX6_dayBySeed 15 = .ok (.aload_n 0, 1) := by decide +kernel
theorem dX6_dayBySeed_16 : decode cX6_dayBySeed 16 = .ok (.getfield 16, 3) := by decide +kernel
theorem dX6_dayBySeed_19 : decode cX6_dayBySeed 19 = .ok (.aload_n 0, 1) := by decide +kernel
theorem dX6_dayBySeed_20 : decode cX6_dayBySeed 20 = .ok (.getfield 35, 3) := by decide +kernel
theorem dX6_dayBySeed_23 : decode cX6_dayBySeed 23 = .ok (.invokevirtual 376, 3) := by decide +kernel
theorem dX6_dayBySeed_26 : decode cX6_dayBySeed 26 = .ok (.istore 4, 2) := by decide +kernel
theorem dX6_dayBySeed_28 : decode cX6_dayBySeed 28 = .ok (.iload 4, 2) := by decide +kernel
theorem dX6_dayBySeed_30 : decode cX6_dayBySeed 30 = .ok (.ifCond .eq 24, 3) := by decide +kernel
theorem dX6_dayBySeed_33 : decode cX6_dayBySeed 33 = .ok (.aload_n 0, 1) := by decide +kernel
theorem dX6_dayBySeed_34 : decode cX6_dayBySeed 34 = .ok (.iload 4, 2) := by decide +kernel
theorem dX6_dayBySeed_36 : decode cX6_dayBySeed 36 = .ok (.aload_n 0, 1) := by decide +kernel
theorem dX6_dayBySeed_37 : decode cX6_dayBySeed 37 = .ok (.iload 4, 2) := by decide +kernel
theorem dX6_dayBySeed_39 : decode cX6_dayBySeed 39 = .ok (.invokestatic 331, 3) := by decide +kernel
theorem dX6_dayBySeed_42 : decode cX6_dayBySeed 42 = .ok (.invokevirtual 373, 3) := by decide +kernel
theorem dX6_dayBySeed_45 : decode cX6_dayBySeed 45 = .ok (.invokestatic 379, 3) := by decide +kernel
theorem dX6_dayBySeed_48 : decode cX6_dayBySeed 48 = .ok (.invokevirtual 230, 3) := by decide +kernel
theorem dX6_dayBySeed_51 : decode cX6_dayBySeed 51 = .ok (.iinc 1 1, 3) := by decide +kernel
theorem dX6_dayBySeed_54 : decode cX6_dayBySeed 54 = .ok (.iinc 3 1, 3) := by decide +kernel
theorem dX6_dayBySeed_57 : decode cX6_dayBySeed 57 = .ok (.goto (-47), 3) := by decide +kernel
theorem dX6_dayBySeed_60 : decode cX6_dayBySeed 60 = .ok (.aload_n 0, 1) := by decide +kernel
theorem dX6_dayBySeed_61 : decode cX6_dayBySeed 61 = .ok (.getfield 16, 3) := by decide +kernel
theorem dX6_dayBySeed_64 : decode cX6_dayBySeed 64 = .ok (.aload_n 0, 1) := by decide +kernel
theorem dX6_dayBySeed_65 : decode cX6_dayBySeed 65 = .ok (.getfield 35, 3) := by decide +kernel
theorem dX6_dayBySeed_68 : decode cX6_dayBySeed 68 = .ok (.invokevirtual 233, 3) := by decide +kernel
theorem dX6_dayBySeed_71 : decode cX6_dayBySeed 71 = .ok (.iload_n 1, 1) := by decide +kernel
theorem dX6_dayBySeed_72 : decode cX6_dayBySeed 72 = .ok (.ireturn, 1) := by decide +kernel
theorem dX6_pick_0 : decode cX6_pick 0 = .ok (.iconst 0, 1) := by decide +kernel
theorem dX6_pick_1 : decode cX6_pick 1 = .ok (.istore_n 2, 1) := by decide +kernel
theorem dX6_pick_2 : decode cX6_pick 2 = .ok (.iconst 0, 1) := by decide +kernel
theorem dX6_pick_3 : decode cX6_pick 3 = .ok (.istore_n 3, 1) := by decide +kernel
theorem dX6_pick_4 : decode cX6_pick 4 = .ok (.iload_n 3, 1) := by decide +kernel
theorem dX6_pick_5 : decode cX6_pick 5 = .ok (.bipush 12, 2) := by decide +kernel
theorem dX6_pick_7 : decode cX6_pick 7 = .ok (.if_icmp .ge 28, 3) := by decide +kernel
theorem dX6_pick_10 : decode cX6_pick 10 = .ok (.iload_n 0, 1) := by decide +kernel
theorem dX6_pick_11 : decode cX6_pick 11 = .ok (.iload_n 3, 1) := by decide +kernel
theorem dX6_pick_12 : decode cX6_pick 12 = .ok (.ishr, 1) := by decide +kernel
theorem dX6_pick_13 : decode cX6_pick 13 = .ok (.iconst 1, 1) := by decide +kernel
theorem dX6_pick_14 : decode cX6_pick 14 = .ok (.iand, 1) := by decide +kernel
theorem dX6_pick_15 : decode cX6_pick 15 = .ok (.iconst 1, 1) := by decide +kernel
theorem dX6_pick_16 : decode cX6_pick 16 = .ok (.if_icmp .ne 13, 3) := by decide +kernel
theorem dX6_pick_19 : decode cX6_pick 19 = .ok (.iload_n 2, 1) := by decide +kernel
theorem dX6_pick_20 : decode cX6_pick 20 = .ok (.iload_n 1, 1) := by decide +kernel
theorem dX6_pick_21 : decode cX6_pick 21 = .ok (.if_icmp .ne 5, 3) := by decide +kernel
theorem dX6_pick_24 : decode cX6_pick 24 = .ok (.iload_n 3, 1) := by decide +kernel
theorem dX6_pick_25 : decode cX6_pick 25 = .ok (.ireturn, 1) := by decide +kernel
theorem dX6_pick_26 : decode cX6_pick 26 = .ok (.iinc 2 1, 3) := by decide +kernel
theorem dX6_pick_29 : decode cX6_pick 29 = .ok (.iinc 3 1, 3) := by decide +kernel
theorem dX6_pick_32 : decode cX6_pick 32 = .ok (.goto (-28), 3) := by decide +kernel
theorem dX6_pick_35 : decode cX6_pick 35 = .ok (.iconst 0, 1) := by decide +kernel
theorem dX6_pick_36 : decode cX6_pick 36 = .ok (.ireturn, 1) := by decide +kernel
set_option maxRecDepth 20000 in
theorem ggX6_goThrough_X5_endDay : GoodIn wsX6_goThrough wsX5_endDay := goodIn_r _ [9, 10, 11, 12, 13, 14, 15, 16, 17, 18, 19, 20, 21, 22, 23, 24, 25, 26, 27, 148, 149, 150, 151, 152, 153, 154, 155, 156, 157, 158, 159, 160, 161, 162, 163, 164, 165, 166, 167, 168, 169, 170, 171] rfl (by decide +kernel)
set_option maxRecDepth 20000 in
theorem gX6_goThrough_X5_endDay : GoodIn wsX6_goThrough (wsV RX6 233 RX5 yX5_endDay wsX5_endDay) := goodIn_app (goodIn_of _ (by decide +kernel)) ggX6_goThrough_X5_endDay
set_option maxRecDepth 20000 in
theorem ggX6_goThrough_X5_whyNot : GoodIn wsX6_goThrough wsX5_whyNot := goodIn_r _ [31, 10, 32, 33, 34, 8, 35, 36, 37, 16, 38, 14, 15, 17, 39, 40, 41, 42, 43, 44, 45, 46, 47, 48, 49, 50, 51, 52, 53, 54, 55, 56, 57, 12, 58, 18, 59, 60, 61, 62, 63, 64, 65, 66, 67, 68, 69, 70, 71, 72, 73, 74, 75, 76, 77, 78, 79, 80, 81, 82, 83, 84, 85, 86, 87, 88, 89, 90, 91, 92, 93, 94, 95, 96, 97, 98, 99, 100, 101, 102, 103, 104, 105, 106, 107, 108, 109, 110, 111, 112, 113, 114, 148, 149, 150, 151, 152, 153, 154, 155, 156, 157, 158, 159, 160, 161, 162, 163, 164, 165, 166, 167, 168, 169, 170, 171] rfl (by decide +kernel)
set_option maxRecDepth 20000 in
theorem gX6_goThrough_X5_whyNot : GoodIn wsX6_goThrough (wsV RX6 216 RX5 yX5_whyNot wsX5_whyNot) := goodIn_app (goodIn_of _ (by decide +kernel)) ggX6_goThrough_X5_whyNot
set_option maxRecDepth 20000 in
theorem ggX6_goThrough_X5_seaBehind : GoodIn wsX6_goThrough wsX5_seaBehind := goodIn_r _ [118, 12, 119, 120, 121, 8, 122, 36, 37, 16, 38, 14, 15, 17, 39, 40, 41, 42, 43, 44, 45, 46, 47, 48, 49, 50, 51, 52, 53, 54, 55, 56, 57, 10, 58, 18, 59, 60, 61, 62, 63, 64, 65, 66, 67, 68, 69, 70, 71, 72, 73, 74, 75, 76, 77, 78, 79, 80, 81, 82, 83, 84, 85, 86, 87, 88, 89, 90, 91, 92, 93, 94, 95, 96, 97, 98, 99, 100, 148, 149, 150, 151, 152, 153, 154, 155, 156, 157, 158, 159, 160, 161, 162, 163, 164, 165, 166, 167, 168, 169, 170, 171] rfl (by decide +kernel)
set_option maxRecDepth 20000 in
theorem gX6_goThrough_X5_seaBehind : GoodIn wsX6_goThrough (wsV RX6 309 RX5 yX5_seaBehind wsX5_seaBehind) := goodIn_app (goodIn_of _ (by decide +kernel)) ggX6_goThrough_X5_seaBehind
set_option maxRecDepth 20000 in
theorem ggX6_goThrough_X5_grantAt : GoodIn wsX6_goThrough wsX5_grantAt := goodIn_r _ [126, 10, 58, 18, 127, 128, 129, 8, 130, 76, 106, 82, 19, 20, 21, 22, 23, 24, 25, 26, 27, 148, 149, 150, 151, 152, 153, 154, 155, 156, 157, 158, 159, 160, 161, 162, 163, 164, 165, 166, 167, 168, 169, 170, 171] rfl (by decide +kernel)
set_option maxRecDepth 20000 in
theorem gX6_goThrough_X5_grantAt : GoodIn wsX6_goThrough (wsV RX6 312 RX5 yX5_grantAt wsX5_grantAt) := goodIn_app (goodIn_of _ (by decide +kernel)) ggX6_goThrough_X5_grantAt
theorem dX6_goThrough_0 : decode cX6_goThrough 0 = .ok (.iload_n 1, 1) := by decide +kernel
theorem dX6_goThrough_1 : decode cX6_goThrough 1 = .ok (.sipush 255, 3) := by decide +kernel
theorem dX6_goThrough_4 : decode cX6_goThrough 4 = .ok (.if_icmp .ne 32, 3) := by decide +kernel
theorem dX6_goThrough_7 : decode cX6_goThrough 7 = .ok (.aload_n 0, 1) := by decide +kernel
theorem dX6_goThrough_8 : decode cX6_goThrough 8 = .ok (.getfield 39, 3) := by decide +kernel
theorem dX6_goThrough_11 : decode cX6_goThrough 11 = .ok (.getfield 146, 3) := by decide +kernel
theorem dX6_goThrough_14 : decode cX6_goThrough 14 = .ok (.sipush 9999, 3) := by decide +kernel
theorem dX6_goThrough_17 : decode cX6_goThrough 17 = .ok (.if_icmp .lt 6, 3) := by decide +kernel
theorem dX6_goThrough_20 : decode cX6_goThrough 20 = .ok (.bipush 7, 2) := by decide +kernel
theorem dX6_goThrough_22 : decode cX6_goThrough 22 = .ok (.ireturn, 1) := by decide +kernel
theorem dX6_goThrough_23 : decode cX6_goThrough 23 = .ok (.aload_n 0, 1) := by decide +kernel
theorem dX6_goThrough_24 : decode cX6_goThrough 24 = .ok (.getfield 16, 3) := by decide +kernel
theorem dX6_goThrough_27 : decode cX6_goThrough 27 = .ok (.aload_n 0, 1) := by decide +kernel
theorem dX6_goThrough_28 : decode cX6_goThrough 28 = .ok (.getfield 39, 3) := by decide +kernel
theorem dX6_goThrough_31 : decode cX6_goThrough 31 = .ok (.invokevirtual 233, 3) := by decide +kernel
theorem dX6_goThrough_34 : decode cX6_goThrough 34 = .ok (.iconst 0, 1) := by decide +kernel
theorem dX6_goThrough_35 : decode cX6_goThrough 35 = .ok (.ireturn, 1) := by decide +kernel
theorem dX6_goThrough_36 : decode cX6_goThrough 36 = .ok (.aload_n 0, 1) := by decide +kernel
theorem dX6_goThrough_37 : decode cX6_goThrough 37 = .ok (.getfield 16, 3) := by decide +kernel
theorem dX6_goThrough_40 : decode cX6_goThrough 40 = .ok (.aload_n 0, 1) := by decide +kernel
theorem dX6_goThrough_41 : decode cX6_goThrough 41 = .ok (.getfield 39, 3) := by decide +kernel
theorem dX6_goThrough_44 : decode cX6_goThrough 44 = .ok (.iload_n 1, 1) := by decide +kernel
theorem dX6_goThrough_45 : decode cX6_goThrough 45 = .ok (.invokevirtual 216, 3) := by decide +kernel
theorem dX6_goThrough_48 : decode cX6_goThrough 48 = .ok (.istore_n 2, 1) := by decide +kernel
theorem dX6_goThrough_49 : decode cX6_goThrough 49 = .ok (.iload_n 2, 1) := by decide +kernel
theorem dX6_goThrough_50 : decode cX6_goThrough 50 = .ok (.ifCond .eq 5, 3) := by decide +kernel
theorem dX6_goThrough_53 : decode cX6_goThrough 53 = .ok (.iload_n 2, 1) := by decide +kernel
theorem dX6_goThrough_54 : decode cX6_goThrough 54 = .ok (.ireturn, 1) := by decide +kernel
theorem dX6_goThrough_55 : decode cX6_goThrough 55 = .ok (.aload_n 0, 1) := by decide +kernel
theorem dX6_goThrough_56 : decode cX6_goThrough 56 = .ok (.getfield 16, 3) := by decide +kernel
theorem dX6_goThrough_59 : decode cX6_goThrough 59 = .ok (.aload_n 0, 1) := by decide +kernel
theorem dX6_goThrough_60 : decode cX6_goThrough 60 = .ok (.getfield 39, 3) := by decide +kernel
theorem dX6_goThrough_63 : decode cX6_goThrough 63 = .ok (.iload_n 1, 1) := by decide +kernel
theorem dX6_goThrough_64 : decode cX6_goThrough 64 = .ok (.invokevirtual 309, 3) := by decide +kernel
theorem dX6_goThrough_67 : decode cX6_goThrough 67 = .ok (.istore_n 3, 1) := by decide +kernel
theorem dX6_goThrough_68 : decode cX6_goThrough 68 = .ok (.iload_n 3, 1) := by decide +kernel
theorem dX6_goThrough_69 : decode cX6_goThrough 69 = .ok (.aload_n 0, 1) := by decide +kernel
theorem dX6_goThrough_70 : decode cX6_goThrough 70 = .ok (.getfield 16, 3) := by decide +kernel
theorem dX6_goThrough_73 : decode cX6_goThrough 73 = .ok (.getfield 157, 3) := by decide +kernel
theorem dX6_goThrough_76 : decode cX6_goThrough 76 = .ok (.if_icmp .le 6, 3) := by decide +kernel
theorem dX6_goThrough_79 : decode cX6_goThrough 79 = .ok (.bipush 6, 2) := by decide +kernel
theorem dX6_goThrough_81 : decode cX6_goThrough 81 = .ok (.ireturn, 1) := by decide +kernel
theorem dX6_goThrough_82 : decode cX6_goThrough 82 = .ok (.aload_n 0, 1) := by decide +kernel
theorem dX6_goThrough_83 : decode cX6_goThrough 83 = .ok (.getfield 16, 3) := by decide +kernel
theorem dX6_goThrough_86 : decode cX6_goThrough 86 = .ok (.aload_n 0, 1) := by decide +kernel
theorem dX6_goThrough_87 : decode cX6_goThrough 87 = .ok (.getfield 39, 3) := by decide +kernel
theorem dX6_goThrough_90 : decode cX6_goThrough 90 = .ok (.iload_n 1, 1) := by decide +kernel
theorem dX6_goThrough_91 : decode cX6_goThrough 91 = .ok (.iload_n 3, 1) := by decide +kernel
theorem dX6_goThrough_92 : decode cX6_goThrough 92 = .ok (.invokevirtual 312, 3) := by decide +kernel
theorem dX6_goThrough_95 : decode cX6_goThrough 95 = .ok (.iconst 0, 1) := by decide +kernel
theorem dX6_goThrough_96 : decode cX6_goThrough 96 = .ok (.ireturn, 1) := by decide +kernel
set_option maxRecDepth 20000 in
theorem ggX6_theRungs_X4_init : GoodIn wsX6_theRungs wsX4_init := goodIn_r _ [8, 9, 10, 11, 12, 13, 14, 15, 16, 17, 18, 19, 20, 21, 22, 40, 41, 42, 43, 44, 45, 46, 47, 48, 49] rfl (by decide +kernel)
set_option maxRecDepth 20000 in
theorem gX6_theRungs_X4_init : GoodIn wsX6_theRungs (wsX4_init) := ggX6_theRungs_X4_init
theorem dX6_theRungs_0 : decode cX6_theRungs 0 = .ok (.aload_n 0, 1) := by decide +kernel
theorem dX6_theRungs_1 : decode cX6_theRungs 1 = .ok (.getfield 358, 3) := by decide +kernel
theorem dX6_theRungs_4 : decode cX6_theRungs 4 = .ok (.ifnonnull 18, 3) := by decide +kernel
theorem dX6_theRungs_7 : decode cX6_theRungs 7 = .ok (.aload_n 0, 1) := by decide +kernel
theorem dX6_theRungs_8 : decode cX6_theRungs 8 = .ok (.new 265, 3) := by decide +kernel
theorem dX6_theRungs_11 : decode cX6_theRungs 11 = .ok (.dup, 1) := by decide +kernel
theorem dX6_theRungs_12 : decode cX6_theRungs 12 = .ok (.aload_n 0, 1) := by decide +kernel
theorem dX6_theRungs_13 : decode cX6_theRungs 13 = .ok (.getfield 16, 3) := by decide +kernel
theorem dX6_theRungs_16 : decode cX6_theRungs 16 = .ok (.invokespecial 382, 3) := by decide +kernel
theorem dX6_theRungs_19 : decode cX6_theRungs 19 = .ok (.putfield 358, 3) := by decide +kernel
theorem dX6_theRungs_22 : decode cX6_theRungs 22 = .ok (.aload_n 0, 1) := by decide +kernel
theorem dX6_theRungs_23 : decode cX6_theRungs 23 = .ok (.getfield 358, 3) := by decide +kernel
theorem dX6_theRungs_26 : decode cX6_theRungs 26 = .ok (.areturn, 1) := by decide +kernel
theorem dX6_tellsFalls_0 : decode cX6_tellsFalls 0 = .ok (.iconst 0, 1) := by decide +kernel
theorem dX6_tellsFalls_1 : decode cX6_tellsFalls 1 = .ok (.istore_n 2, 1) := by decide +kernel
theorem dX6_tellsFalls_2 : decode cX6_tellsFalls 2 = .ok (.iload_n 2, 1) := by decide +kernel
theorem dX6_tellsFalls_3 : decode cX6_tellsFalls 3 = .ok (.iload_n 1, 1) := by decide +kernel
theorem dX6_tellsFalls_4 : decode cX6_tellsFalls 4 = .ok (.if_icmp .ge 25, 3) := by decide +kernel
theorem dX6_tellsFalls_7 : decode cX6_tellsFalls 7 = .ok (.aload_n 0, 1) := by decide +kernel
theorem dX6_tellsFalls_8 : decode cX6_tellsFalls 8 = .ok (.getfield 9, 3) := by decide +kernel
theorem dX6_tellsFalls_11 : decode cX6_tellsFalls 11 = .ok (.iconst 3, 1) := by decide +kernel
theorem dX6_tellsFalls_12 : decode cX6_tellsFalls 12 = .ok (.iload_n 2, 1) := by decide +kernel
theorem dX6_tellsFalls_13 : decode cX6_tellsFalls 13 = .ok (.imul, 1) := by decide +kernel
theorem dX6_tellsFalls_14 : decode cX6_tellsFalls 14 = .ok (.iconst 2, 1) := by decide +kernel
theorem dX6_tellsFalls_15 : decode cX6_tellsFalls 15 = .ok (.iadd, 1) := by decide +kernel
theorem dX6_tellsFalls_16 : decode cX6_tellsFalls 16 = .ok (.iaload, 1) := by decide +kernel
theorem dX6_tellsFalls_17 : decode cX6_tellsFalls 17 = .ok (.iconst 1, 1) := by decide +kernel
theorem dX6_tellsFalls_18 : decode cX6_tellsFalls 18 = .ok (.if_icmp .le 5, 3) := by decide +kernel
theorem dX6_tellsFalls_21 : decode cX6_tellsFalls 21 = .ok (.iconst 0, 1) := by decide +kernel
theorem dX6_tellsFalls_22 : decode cX6_tellsFalls 22 = .ok (.ireturn, 1) := by decide +kernel
theorem dX6_tellsFalls_23 : decode cX6_tellsFalls 23 = .ok (.iinc 2 1, 3) := by decide +kernel
theorem dX6_tellsFalls_26 : decode cX6_tellsFalls 26 = .ok (.goto (-24), 3) := by decide +kernel
theorem dX6_tellsFalls_29 : decode cX6_tellsFalls 29 = .ok (.iconst 1, 1) := by decide +kernel
theorem dX6_tellsFalls_30 : decode cX6_tellsFalls 30 = .ok (.ireturn, 1) := by decide +kernel
theorem dX6_bearsFrom_0 : decode cX6_bearsFrom 0 = .ok (.iconst 0, 1) := by decide +kernel
theorem dX6_bearsFrom_1 : decode cX6_bearsFrom 1 = .ok (.aload_n 0, 1) := by decide +kernel
theorem dX6_bearsFrom_2 : decode cX6_bearsFrom 2 = .ok (.getfield 65, 3) := by decide +kernel
theorem dX6_bearsFrom_5 : decode cX6_bearsFrom 5 = .ok (.aload_n 0, 1) := by decide +kernel
theorem dX6_bearsFrom_6 : decode cX6_bearsFrom 6 = .ok (.getfield 62, 3) := by decide +kernel
theorem dX6_bearsFrom_9 : decode cX6_bearsFrom 9 = .ok (.iload_n 1, 1) := by decide +kernel
theorem dX6_bearsFrom_10 : decode cX6_bearsFrom 10 = .ok (.invokestatic 255, 3) := by decide +kernel
theorem dX6_bearsFrom_13 : decode cX6_bearsFrom 13 = .ok (.isub, 1) := by decide +kernel
theorem dX6_bearsFrom_14 : decode cX6_bearsFrom 14 = .ok (.iconst 1, 1) := by decide +kernel
theorem dX6_bearsFrom_15 : decode cX6_bearsFrom 15 = .ok (.iadd, 1) := by decide +kernel
theorem dX6_bearsFrom_16 : decode cX6_bearsFrom 16 = .ok (.invokestatic 255, 3) := by decide +kernel
theorem dX6_bearsFrom_19 : decode cX6_bearsFrom 19 = .ok (.ireturn, 1) := by decide +kernel
set_option maxRecDepth 20000 in
theorem ggX6_mayAllBeSaid_X0_take : GoodIn wsX6_mayAllBeSaid wsX0_take := goodIn_r _ [9, 10, 11, 12, 13, 14, 15, 16, 8, 17, 147, 148, 149, 150] rfl (by decide +kernel)
set_option maxRecDepth 20000 in
theorem gX6_mayAllBeSaid_X0_take : GoodIn wsX6_mayAllBeSaid (wsV RX6 249 RX0 yX0_take wsX0_take) := goodIn_app (goodIn_of _ (by decide +kernel)) ggX6_mayAllBeSaid_X0_take
set_option maxRecDepth 20000 in
theorem ggX6_mayAllBeSaid_X5_whyNot : GoodIn wsX6_mayAllBeSaid wsX5_whyNot := goodIn_r _ [22, 23, 24, 25, 26, 21, 27, 28, 29, 30, 31, 32, 33, 34, 35, 36, 37, 38, 39, 40, 41, 42, 43, 44, 45, 46, 47, 48, 49, 50, 51, 52, 53, 54, 55, 56, 57, 58, 59, 60, 61, 62, 63, 64, 65, 66, 67, 68, 69, 70, 71, 72, 73, 74, 75, 76, 77, 78, 79, 80, 81, 82, 83, 84, 85, 86, 87, 88, 89, 90, 91, 92, 93, 94, 95, 96, 97, 98, 99, 100, 101, 102, 103, 104, 105, 106, 107, 108, 109, 110, 111, 112, 147, 148, 149, 150, 151, 152, 153, 154, 155, 156, 157, 158, 159, 160, 161, 162, 163, 164, 165, 166, 167, 168, 169, 170] rfl (by decide +kernel)
set_option maxRecDepth 20000 in
theorem gX6_mayAllBeSaid_X5_whyNot : GoodIn wsX6_mayAllBeSaid (wsV RX6 216 RX5 yX5_whyNot wsX5_whyNot) := goodIn_app (goodIn_of _ (by decide +kernel)) ggX6_mayAllBeSaid_X5_whyNot
set_option maxRecDepth 20000 in
theorem ggX6_mayAllBeSaid_X5_seaBehind : GoodIn wsX6_mayAllBeSaid wsX5_seaBehind := goodIn_r _ [116, 54, 117, 118, 119, 21, 120, 28, 29, 30, 31, 32, 33, 34, 35, 36, 37, 38, 39, 40, 41, 42, 43, 44, 45, 46, 47, 48, 49, 50, 51, 52, 53, 23, 55, 56, 57, 58, 59, 60, 61, 62, 63, 64, 65, 66, 67, 68, 69, 70, 71, 72, 73, 74, 75, 76, 77, 78, 79, 80, 81, 82, 83, 84, 85, 86, 87, 88, 89, 90, 91, 92, 93, 94, 95, 96, 97, 98, 147, 148, 149, 150, 151, 152, 153, 154, 155, 156, 157, 158, 159, 160, 161, 162, 163, 164, 165, 166, 167, 168, 169, 170] rfl (by decide +kernel)
set_option maxRecDepth 20000 in
theorem gX6_mayAllBeSaid_X5_seaBehind : GoodIn wsX6_mayAllBeSaid (wsV RX6 309 RX5 yX5_seaBehind wsX5_seaBehind) := goodIn_app (goodIn_of _ (by decide +kernel)) ggX6_mayAllBeSaid_X5_seaBehind
set_option maxRecDepth 20000 in
theorem ggX6_mayAllBeSaid_X5_grantAt : GoodIn wsX6_mayAllBeSaid wsX5_grantAt := goodIn_r _ [124, 23, 55, 56, 125, 126, 127, 21, 128, 74, 104, 80, 129, 15, 16, 8, 17, 10, 11, 12, 13, 147, 148, 149, 150, 151, 152, 153, 154, 155, 156, 157, 158, 159, 160, 161, 162, 163, 164, 165, 166, 167, 168, 169, 170] rfl (by decide +kernel)
set_option maxRecDepth 20000 in
theorem gX6_mayAllBeSaid_X5_grantAt : GoodIn wsX6_mayAllBeSaid (wsV RX6 312 RX5 yX5_grantAt wsX5_grantAt) := goodIn_app (goodIn_of _ (by decide +kernel)) ggX6_mayAllBeSaid_X5_grantAt
theorem dX6_mayAllBeSaid_0 : decode cX6_mayAllBeSaid 0 = .ok (.aload_n 0, 1) := by decide +kernel
theorem dX6_mayAllBeSaid_1 : decode cX6_mayAllBeSaid 1 = .ok (.getfield 39, 3) := by decide +kernel
theorem dX6_mayAllBeSaid_4 : decode cX6_mayAllBeSaid 4 = .ok (.aload_n 0, 1) := by decide +kernel
theorem dX6_mayAllBeSaid_5 : decode cX6_mayAllBeSaid 5 = .ok (.getfield 35, 3) := by decide +kernel
theorem dX6_mayAllBeSaid_8 : decode cX6_mayAllBeSaid 8 = .ok (.invokevirtual 249, 3) := by decide +kernel
theorem dX6_mayAllBeSaid_11 : decode cX6_mayAllBeSaid 11 = .ok (.iconst 0, 1) := by decide +kernel
theorem dX6_mayAllBeSaid_12 : decode cX6_mayAllBeSaid 12 = .ok (.istore_n 2, 1) := by decide +kernel
theorem dX6_mayAllBeSaid_13 : decode cX6_mayAllBeSaid 13 = .ok (.iload_n 2, 1) := by decide +kernel
theorem dX6_mayAllBeSaid_14 : decode cX6_mayAllBeSaid 14 = .ok (.iload_n 1, 1) := by decide +kernel
theorem dX6_mayAllBeSaid_15 : decode cX6_mayAllBeSaid 15 = .ok (.if_icmp .ge 74, 3) := by decide +kernel
theorem dX6_mayAllBeSaid_18 : decode cX6_mayAllBeSaid 18 = .ok (.iload_n 2, 1) := by decide +kernel
theorem dX6_mayAllBeSaid_19 : decode cX6_mayAllBeSaid 19 = .ok (.aload_n 0, 1) := by decide +kernel
theorem dX6_mayAllBeSaid_20 : decode cX6_mayAllBeSaid 20 = .ok (.getfield 9, 3) := by decide +kernel
theorem dX6_mayAllBeSaid_23 : decode cX6_mayAllBeSaid 23 = .ok (.arraylength, 1) := by decide +kernel
theorem dX6_mayAllBeSaid_24 : decode cX6_mayAllBeSaid 24 = .ok (.if_icmp .ge 65, 3) := by decide +kernel
theorem dX6_mayAllBeSaid_27 : decode cX6_mayAllBeSaid 27 = .ok (.aload_n 0, 1) := by decide +kernel
theorem dX6_mayAllBeSaid_28 : decode cX6_mayAllBeSaid 28 = .ok (.getfield 16, 3) := by decide +kernel
theorem dX6_mayAllBeSaid_31 : decode cX6_mayAllBeSaid 31 = .ok (.aload_n 0, 1) := by decide +kernel
theorem dX6_mayAllBeSaid_32 : decode cX6_mayAllBeSaid 32 = .ok (.getfield 39, 3) := by decide +kernel
theorem dX6_mayAllBeSaid_35 : decode cX6_mayAllBeSaid 35 = .ok (.aload_n 0, 1) := by decide +kernel
theorem dX6_mayAllBeSaid_36 : decode cX6_mayAllBeSaid 36 = .ok (.getfield 9, 3) := by decide +kernel
theorem dX6_mayAllBeSaid_39 : decode cX6_mayAllBeSaid 39 = .ok (.iload_n 2, 1) := by decide +kernel
theorem dX6_mayAllBeSaid_40 : decode cX6_mayAllBeSaid 40 = .ok (.iaload, 1) := by decide +kernel
theorem dX6_mayAllBeSaid_41 : decode cX6_mayAllBeSaid 41 = .ok (.invokevirtual 216, 3) := by decide +kernel
theorem dX6_mayAllBeSaid_44 : decode cX6_mayAllBeSaid 44 = .ok (.ifCond .eq 5, 3) := by decide +kernel
theorem dX6_mayAllBeSaid_47 : decode cX6_mayAllBeSaid 47 = .ok (.iconst 0, 1) := by decide +kernel
theorem dX6_mayAllBeSaid_48 : decode cX6_mayAllBeSaid 48 = .ok (.ireturn, 1) := by decide +kernel
theorem dX6_mayAllBeSaid_49 : decode cX6_mayAllBeSaid 49 = .ok (.aload_n 0, 1) := by decide +kernel
theorem dX6_mayAllBeSaid_50 : decode cX6_mayAllBeSaid 50 = .ok (.getfield 16, 3) := by decide +kernel
theorem dX6_mayAllBeSaid_53 : decode cX6_mayAllBeSaid 53 = .ok (.aload_n 0, 1) := by decide +kernel
theorem dX6_mayAllBeSaid_54 : decode cX6_mayAllBeSaid 54 = .ok (.getfield 39, 3) := by decide +kernel
theorem dX6_mayAllBeSaid_57 : decode cX6_mayAllBeSaid 57 = .ok (.aload_n 0, 1) := by decide +kernel
theorem dX6_mayAllBeSaid_58 : decode cX6_mayAllBeSaid 58 = .ok (.getfield 9, 3) := by decide +kernel
theorem dX6_mayAllBeSaid_61 : decode cX6_mayAllBeSaid 61 = .ok (.iload_n 2, 1) := by decide +kernel
theorem dX6_mayAllBeSaid_62 : decode cX6_mayAllBeSaid 62 = .ok (.iaload, 1) := by decide +kernel
theorem dX6_mayAllBeSaid_63 : decode cX6_mayAllBeSaid 63 = .ok (.aload_n 0, 1) := by decide +kernel
theorem dX6_mayAllBeSaid_64 : decode cX6_mayAllBeSaid 64 = .ok (.getfield 16, 3) := by decide +kernel
theorem dX6_mayAllBeSaid_67 : decode cX6_mayAllBeSaid 67 = .ok (.aload_n 0, 1) := by decide +kernel
theorem dX6_mayAllBeSaid_68 : decode cX6_mayAllBeSaid 68 = .ok (.getfield 39, 3) := by decide +kernel
theorem dX6_mayAllBeSaid_71 : decode cX6_mayAllBeSaid 71 = .ok (.aload_n 0, 1) := by decide +kernel
theorem dX6_mayAllBeSaid_72 : decode cX6_mayAllBeSaid 72 = .ok (.getfield 9, 3) := by decide +kernel
theorem dX6_mayAllBeSaid_75 : decode cX6_mayAllBeSaid 75 = .ok (.iload_n 2, 1) := by decide +kernel
theorem dX6_mayAllBeSaid_76 : decode cX6_mayAllBeSaid 76 = .ok (.iaload, 1) := by decide +kernel
theorem dX6_mayAllBeSaid_77 : decode cX6_mayAllBeSaid 77 = .ok (.invokevirtual 309, 3) := by decide +kernel
theorem dX6_mayAllBeSaid_80 : decode cX6_mayAllBeSaid 80 = .ok (.invokevirtual 312, 3) := by decide +kernel
theorem dX6_mayAllBeSaid_83 : decode cX6_mayAllBeSaid 83 = .ok (.iinc 2 1, 3) := by decide +kernel
theorem dX6_mayAllBeSaid_86 : decode cX6_mayAllBeSaid 86 = .ok (.goto (-73), 3) := by decide +kernel
theorem dX6_mayAllBeSaid_89 : decode cX6_mayAllBeSaid 89 = .ok (.iconst 1, 1) := by decide +kernel
theorem dX6_mayAllBeSaid_90 : decode cX6_mayAllBeSaid 90 = .ok (.ireturn, 1) := by decide +kernel
set_option maxRecDepth 20000 in
theorem ggX6_valueOf_X6_bearsFrom : GoodIn wsX6_valueOf wsX6_bearsFrom := goodIn_r _ [8, 9, 1, 10, 11, 12, 13, 21, 22, 23, 24, 25, 26, 27, 28, 29, 30, 31, 32, 33, 34, 35, 36, 37] rfl (by decide +kernel)
set_option maxRecDepth 20000 in
theorem gX6_valueOf_X6_bearsFrom : GoodIn wsX6_valueOf (wsV RX6 303 RX6 yX6_bearsFrom wsX6_bearsFrom) := goodIn_app (goodIn_of _ (by decide +kernel)) ggX6_valueOf_X6_bearsFrom
set_option maxRecDepth 20000 in
theorem ggX6_valueOf_X5_worthOf : GoodIn wsX6_valueOf wsX5_worthOf := goodIn_r _ [18, 19, 20, 38, 39, 40, 41, 42, 43, 44, 45, 46, 47, 48, 49, 50, 51, 52, 53, 54, 55, 56, 57] rfl (by decide +kernel)
set_option maxRecDepth 20000 in
theorem gX6_valueOf_X5_worthOf : GoodIn wsX6_valueOf (wsV RX6 137 RX5 yX5_worthOf wsX5_worthOf) := goodIn_app (goodIn_of _ (by decide +kernel)) ggX6_valueOf_X5_worthOf
theorem dX6_valueOf_0 : decode cX6_valueOf 0 = .ok (.aload_n 0, 1) := by decide +kernel
theorem dX6_valueOf_1 : decode cX6_valueOf 1 = .ok (.iload_n 2, 1) := by decide +kernel
theorem dX6_valueOf_2 : decode cX6_valueOf 2 = .ok (.invokevirtual 303, 3) := by decide +kernel
theorem dX6_valueOf_5 : decode cX6_valueOf 5 = .ok (.i2l, 1) := by decide +kernel
theorem dX6_valueOf_6 : decode cX6_valueOf 6 = .ok (.lstore_n 3, 1) := by decide +kernel
theorem dX6_valueOf_7 : decode cX6_valueOf 7 = .ok (.aload_n 0, 1) := by decide +kernel
theorem dX6_valueOf_8 : decode cX6_valueOf 8 = .ok (.aload_n 0, 1) := by decide +kernel
theorem dX6_valueOf_9 : decode cX6_valueOf 9 = .ok (.getfield 62, 3) := by decide +kernel
theorem dX6_valueOf_12 : decode cX6_valueOf 12 = .ok (.invokevirtual 303, 3) := by decide +kernel
theorem dX6_valueOf_15 : decode cX6_valueOf 15 = .ok (.i2l, 1) := by decide +kernel
theorem dX6_valueOf_16 : decode cX6_valueOf 16 = .ok (.lload_n 3, 1) := by decide +kernel
theorem dX6_valueOf_17 : decode cX6_valueOf 17 = .ok (.lsub, 1) := by decide +kernel
theorem dX6_valueOf_18 : decode cX6_valueOf 18 = .ok (.lstore 5, 2) := by decide +kernel
theorem dX6_valueOf_20 : decode cX6_valueOf 20 = .ok (.lload_n 3, 1) := by decide +kernel
theorem dX6_valueOf_21 : decode cX6_valueOf 21 = .ok (.aload_n 0, 1) := by decide +kernel
theorem dX6_valueOf_22 : decode cX6_valueOf 22 = .ok (.getfield 16, 3) := by decide +kernel
theorem dX6_valueOf_25 : decode cX6_valueOf 25 = .ok (.iload_n 1, 1) := by decide +kernel
theorem dX6_valueOf_26 : decode cX6_valueOf 26 = .ok (.invokevirtual 137, 3) := by decide +kernel
theorem dX6_valueOf_29 : decode cX6_valueOf 29 = .ok (.i2l, 1) := by decide +kernel
theorem dX6_valueOf_30 : decode cX6_valueOf 30 = .ok (.lmul, 1) := by decide +kernel
theorem dX6_valueOf_31 : decode cX6_valueOf 31 = .ok (.lload 5, 2) := by decide +kernel
theorem dX6_valueOf_33 : decode cX6_valueOf 33 = .ok (.aload_n 0, 1) := by decide +kernel
theorem dX6_valueOf_34 : decode cX6_valueOf 34 = .ok (.getfield 16, 3) := by decide +kernel
theorem dX6_valueOf_37 : decode cX6_valueOf 37 = .ok (.aload_n 0, 1) := by decide +kernel
theorem dX6_valueOf_38 : decode cX6_valueOf 38 = .ok (.getfield 16, 3) := by decide +kernel
theorem dX6_valueOf_41 : decode cX6_valueOf 41 = .ok (.getfield 195, 3) := by decide +kernel
theorem dX6_valueOf_44 : decode cX6_valueOf 44 = .ok (.invokevirtual 137, 3) := by decide +kernel
theorem dX6_valueOf_47 : decode cX6_valueOf 47 = .ok (.i2l, 1) := by decide +kernel
theorem dX6_valueOf_48 : decode cX6_valueOf 48 = .ok (.lmul, 1) := by decide +kernel
theorem dX6_valueOf_49 : decode cX6_valueOf 49 = .ok (.ladd, 1) := by decide +kernel
theorem dX6_valueOf_50 : decode cX6_valueOf 50 = .ok (.lreturn, 1) := by decide +kernel
theorem dX6_putPair_0 : decode cX6_putPair 0 = .ok (.iload_n 1, 1) := by decide +kernel
theorem dX6_putPair_1 : decode cX6_putPair 1 = .ok (.ifCond .lt 41, 3) := by decide +kernel
theorem dX6_putPair_4 : decode cX6_putPair 4 = .ok (.iload_n 1, 1) := by decide +kernel
theorem dX6_putPair_5 : decode cX6_putPair 5 = .ok (.iconst 1, 1) := by decide +kernel
theorem dX6_putPair_6 : decode cX6_putPair 6 = .ok (.iadd, 1) := by decide +kernel
theorem dX6_putPair_7 : decode cX6_putPair 7 = .ok (.aload_n 0, 1) := by decide +kernel
theorem dX6_putPair_8 : decode cX6_putPair 8 = .ok (.getfield 75, 3) := by decide +kernel
theorem dX6_putPair_11 : decode cX6_putPair 11 = .ok (.arraylength, 1) := by decide +kernel
theorem dX6_putPair_12 : decode cX6_putPair 12 = .ok (.if_icmp .ge 30, 3) := by decide +kernel
theorem dX6_putPair_15 : decode cX6_putPair 15 = .ok (.aload_n 0, 1) := by decide +kernel
theorem dX6_putPair_16 : decode cX6_putPair 16 = .ok (.getfield 75, 3) := by decide +kernel
theorem dX6_putPair_19 : decode cX6_putPair 19 = .ok (.iload_n 1, 1) := by decide +kernel
theorem dX6_putPair_20 : decode cX6_putPair 20 = .ok (.iload_n 2, 1) := by decide +kernel
theorem dX6_putPair_21 : decode cX6_putPair 21 = .ok (.bipush 8, 2) := by decide +kernel
theorem dX6_putPair_23 : decode cX6_putPair 23 = .ok (.ishr, 1) := by decide +kernel
theorem dX6_putPair_24 : decode cX6_putPair 24 = .ok (.sipush 255, 3) := by decide +kernel
theorem dX6_putPair_27 : decode cX6_putPair 27 = .ok (.iand, 1) := by decide +kernel
theorem dX6_putPair_28 : decode cX6_putPair 28 = .ok (.iastore, 1) := by decide +kernel
theorem dX6_putPair_29 : decode cX6_putPair 29 = .ok (.aload_n 0, 1) := by decide +kernel
theorem dX6_putPair_30 : decode cX6_putPair 30 = .ok (.getfield 75, 3) := by decide +kernel
theorem dX6_putPair_33 : decode cX6_putPair 33 = .ok (.iload_n 1, 1) := by decide +kernel
theorem dX6_putPair_34 : decode cX6_putPair 34 = .ok (.iconst 1, 1) := by decide +kernel
theorem dX6_putPair_35 : decode cX6_putPair 35 = .ok (.iadd, 1) := by decide +kernel
theorem dX6_putPair_36 : decode cX6_putPair 36 = .ok (.iload_n 2, 1) := by decide +kernel
theorem dX6_putPair_37 : decode cX6_putPair 37 = .ok (.sipush 255, 3) := by decide +kernel
theorem dX6_putPair_40 : decode cX6_putPair 40 = .ok (.iand, 1) := by decide +kernel
theorem dX6_putPair_41 : decode cX6_putPair 41 = .ok (.iastore, 1) := by decide +kernel
theorem dX6_putPair_42 : decode cX6_putPair 42 = .ok (.return_, 1) := by decide +kernel
theorem dX6_pairAt_0 : decode cX6_pairAt 0 = .ok (.iload_n 1, 1) := by decide +kernel
theorem dX6_pairAt_1 : decode cX6_pairAt 1 = .ok (.ifCond .lt 36, 3) := by decide +kernel
theorem dX6_pairAt_4 : decode cX6_pairAt 4 = .ok (.iload_n 1, 1) := by decide +kernel
theorem dX6_pairAt_5 : decode cX6_pairAt 5 = .ok (.iconst 1, 1) := by decide +kernel
theorem dX6_pairAt_6 : decode cX6_pairAt 6 = .ok (.iadd, 1) := by decide +kernel
theorem dX6_pairAt_7 : decode cX6_pairAt 7 = .ok (.aload_n 0, 1) := by decide +kernel
theorem dX6_pairAt_8 : decode cX6_pairAt 8 = .ok (.getfield 9, 3) := by decide +kernel
theorem dX6_pairAt_11 : decode cX6_pairAt 11 = .ok (.arraylength, 1) := by decide +kernel
theorem dX6_pairAt_12 : decode cX6_pairAt 12 = .ok (.if_icmp .ge 25, 3) := by decide +kernel
theorem dX6_pairAt_15 : decode cX6_pairAt 15 = .ok (.aload_n 0, 1) := by decide +kernel
theorem dX6_pairAt_16 : decode cX6_pairAt 16 = .ok (.getfield 9, 3) := by decide +kernel
theorem dX6_pairAt_19 : decode cX6_pairAt 19 = .ok (.iload_n 1, 1) := by decide +kernel
theorem dX6_pairAt_20 : decode cX6_pairAt 20 = .ok (.iaload, 1) := by decide +kernel
theorem dX6_pairAt_21 : decode cX6_pairAt 21 = .ok (.sipush 256, 3) := by decide +kernel
theorem dX6_pairAt_24 : decode cX6_pairAt 24 = .ok (.imul, 1) := by decide +kernel
theorem dX6_pairAt_25 : decode cX6_pairAt 25 = .ok (.aload_n 0, 1) := by decide +kernel
theorem dX6_pairAt_26 : decode cX6_pairAt 26 = .ok (.getfield 9, 3) := by decide +kernel
theorem dX6_pairAt_29 : decode cX6_pairAt 29 = .ok (.iload_n 1, 1) := by decide +kernel
theorem dX6_pairAt_30 : decode cX6_pairAt 30 = .ok (.iconst 1, 1) := by decide +kernel
theorem dX6_pairAt_31 : decode cX6_pairAt 31 = .ok (.iadd, 1) := by decide +kernel
theorem dX6_pairAt_32 : decode cX6_pairAt 32 = .ok (.iaload, 1) := by decide +kernel
theorem dX6_pairAt_33 : decode cX6_pairAt 33 = .ok (.iadd, 1) := by decide +kernel
theorem dX6_pairAt_34 : decode cX6_pairAt 34 = .ok (.goto 4, 3) := by decide +kernel
theorem dX6_pairAt_37 : decode cX6_pairAt 37 = .ok (.iconst 0, 1) := by decide +kernel
theorem dX6_pairAt_38 : decode cX6_pairAt 38 = .ok (.ireturn, 1) := by decide +kernel
theorem dX6_checkOf_0 : decode cX6_checkOf 0 = .ok (.bipush 97, 2) := by decide +kernel
theorem dX6_checkOf_2 : decode cX6_checkOf 2 = .ok (.istore_n 1, 1) := by decide +kernel
theorem dX6_checkOf_3 : decode cX6_checkOf 3 = .ok (.iconst 0, 1) := by decide +kernel
theorem dX6_checkOf_4 : decode cX6_checkOf 4 = .ok (.istore_n 2, 1) := by decide +kernel
theorem dX6_checkOf_5 : decode cX6_checkOf 5 = .ok (.iload_n 2, 1) := by decide +kernel
theorem dX6_checkOf_6 : decode cX6_checkOf 6 = .ok (.bipush 8, 2) := by decide +kernel
theorem dX6_checkOf_8 : decode cX6_checkOf 8 = .ok (.if_icmp .ge 27, 3) := by decide +kernel
theorem dX6_checkOf_11 : decode cX6_checkOf 11 = .ok (.iload_n 2, 1) := by decide +kernel
theorem dX6_checkOf_12 : decode cX6_checkOf 12 = .ok (.aload_n 0, 1) := by decide +kernel
theorem dX6_checkOf_13 : decode cX6_checkOf 13 = .ok (.arraylength, 1) := by decide +kernel
theorem dX6_checkOf_14 : decode cX6_checkOf 14 = .ok (.if_icmp .ge 21, 3) := by decide +kernel
theorem dX6_checkOf_17 : decode cX6_checkOf 17 = .ok (.iconst 5, 1) := by decide +kernel
theorem dX6_checkOf_18 : decode cX6_checkOf 18 = .ok (.iload_n 1, 1) := by decide +kernel
theorem dX6_checkOf_19 : decode cX6_checkOf 19 = .ok (.imul, 1) := by decide +kernel
theorem dX6_checkOf_20 : decode cX6_checkOf 20 = .ok (.aload_n 0, 1) := by decide +kernel
theorem dX6_checkOf_21 : decode cX6_checkOf 21 = .ok (.iload_n 2, 1) := by decide +kernel
theorem dX6_checkOf_22 : decode cX6_checkOf 22 = .ok (.iaload, 1) := by decide +kernel
theorem dX6_checkOf_23 : decode cX6_checkOf 23 = .ok (.iadd, 1) := by decide +kernel
theorem dX6_checkOf_24 : decode cX6_checkOf 24 = .ok (.sipush 251, 3) := by decide +kernel
theorem dX6_checkOf_27 : decode cX6_checkOf 27 = .ok (.irem, 1) := by decide +kernel
theorem dX6_checkOf_28 : decode cX6_checkOf 28 = .ok (.istore_n 1, 1) := by decide +kernel
theorem dX6_checkOf_29 : decode cX6_checkOf 29 = .ok (.iinc 2 1, 3) := by decide +kernel
theorem dX6_checkOf_32 : decode cX6_checkOf 32 = .ok (.goto (-27), 3) := by decide +kernel
theorem dX6_checkOf_35 : decode cX6_checkOf 35 = .ok (.iload_n 1, 1) := by decide +kernel
theorem dX6_checkOf_36 : decode cX6_checkOf 36 = .ok (.ireturn, 1) := by decide +kernel
set_option maxRecDepth 20000 in
theorem ggX6_isImage_X6_checkOf : GoodIn wsX6_isImage wsX6_checkOf := goodIn_r _ [8] rfl (by decide +kernel)
set_option maxRecDepth 20000 in
theorem gX6_isImage_X6_checkOf : GoodIn wsX6_isImage (va_wsS RX6 340 yX6_checkOf wsX6_checkOf) := goodIn_app (goodIn_of _ (by decide +kernel)) ggX6_isImage_X6_checkOf
set_option maxRecDepth 20000 in
theorem ggX6_isImage_X6_pairAt : GoodIn wsX6_isImage wsX6_pairAt := goodIn_r _ [12, 1, 13, 14, 15, 16, 17, 18, 19, 20, 21, 22, 23, 24, 25, 26, 27, 28, 29] rfl (by decide +kernel)
set_option maxRecDepth 20000 in
theorem gX6_isImage_X6_pairAt : GoodIn wsX6_isImage (wsV RX6 347 RX6 yX6_pairAt wsX6_pairAt) := goodIn_app (goodIn_of _ (by decide +kernel)) ggX6_isImage_X6_pairAt
theorem dX6_isImage_0 : decode cX6_isImage 0 = .ok (.iload_n 1, 1) := by decide +kernel
theorem dX6_isImage_1 : decode cX6_isImage 1 = .ok (.bipush 9, 2) := by decide +kernel
theorem dX6_isImage_3 : decode cX6_isImage 3 = .ok (.if_icmp .ne 79, 3) := by decide +kernel
theorem dX6_isImage_6 : decode cX6_isImage 6 = .ok (.aload_n 0, 1) := by decide +kernel
theorem dX6_isImage_7 : decode cX6_isImage 7 = .ok (.getfield 9, 3) := by decide +kernel
theorem dX6_isImage_10 : decode cX6_isImage 10 = .ok (.bipush 8, 2) := by decide +kernel
theorem dX6_isImage_12 : decode cX6_isImage 12 = .ok (.iaload, 1) := by decide +kernel
theorem dX6_isImage_13 : decode cX6_isImage 13 = .ok (.aload_n 0, 1) := by decide +kernel
theorem dX6_isImage_14 : decode cX6_isImage 14 = .ok (.getfield 9, 3) := by decide +kernel
theorem dX6_isImage_17 : decode cX6_isImage 17 = .ok (.invokestatic 340, 3) := by decide +kernel
theorem dX6_isImage_20 : decode cX6_isImage 20 = .ok (.if_icmp .ne 62, 3) := by decide +kernel
theorem dX6_isImage_23 : decode cX6_isImage 23 = .ok (.aload_n 0, 1) := by decide +kernel
theorem dX6_isImage_24 : decode cX6_isImage 24 = .ok (.iconst 0, 1) := by decide +kernel
theorem dX6_isImage_25 : decode cX6_isImage 25 = .ok (.invokevirtual 347, 3) := by decide +kernel
theorem dX6_isImage_28 : decode cX6_isImage 28 = .ok (.sipush 9999, 3) := by decide +kernel
theorem dX6_isImage_31 : decode cX6_isImage 31 = .ok (.if_icmp .gt 51, 3) := by decide +kernel
theorem dX6_isImage_34 : decode cX6_isImage 34 = .ok (.aload_n 0, 1) := by decide +kernel
theorem dX6_isImage_35 : decode cX6_isImage 35 = .ok (.iconst 2, 1) := by decide +kernel
theorem dX6_isImage_36 : decode cX6_isImage 36 = .ok (.invokevirtual 347, 3) := by decide +kernel
theorem dX6_isImage_39 : decode cX6_isImage 39 = .ok (.sipush 9999, 3) := by decide +kernel
theorem dX6_isImage_42 : decode cX6_isImage 42 = .ok (.if_icmp .gt 40, 3) := by decide +kernel
theorem dX6_isImage_45 : decode cX6_isImage 45 = .ok (.aload_n 0, 1) := by decide +kernel
theorem dX6_isImage_46 : decode cX6_isImage 46 = .ok (.iconst 4, 1) := by decide +kernel
theorem dX6_isImage_47 : decode cX6_isImage 47 = .ok (.invokevirtual 347, 3) := by decide +kernel
theorem dX6_isImage_50 : decode cX6_isImage 50 = .ok (.aload_n 0, 1) := by decide +kernel
theorem dX6_isImage_51 : decode cX6_isImage 51 = .ok (.getfield 16, 3) := by decide +kernel
theorem dX6_isImage_54 : decode cX6_isImage 54 = .ok (.getfield 157, 3) := by decide +kernel
theorem dX6_isImage_57 : decode cX6_isImage 57 = .ok (.if_icmp .gt 25, 3) := by decide +kernel
theorem dX6_isImage_60 : decode cX6_isImage 60 = .ok (.aload_n 0, 1) := by decide +kernel
theorem dX6_isImage_61 : decode cX6_isImage 61 = .ok (.bipush 6, 2) := by decide +kernel
theorem dX6_isImage_63 : decode cX6_isImage 63 = .ok (.invokevirtual 347, 3) := by decide +kernel
theorem dX6_isImage_66 : decode cX6_isImage 66 = .ok (.iconst 1, 1) := by decide +kernel
theorem dX6_isImage_67 : decode cX6_isImage 67 = .ok (.aload_n 0, 1) := by decide +kernel
theorem dX6_isImage_68 : decode cX6_isImage 68 = .ok (.getfield 16, 3) := by decide +kernel
theorem dX6_isImage_71 : decode cX6_isImage 71 = .ok (.getfield 130, 3) := by decide +kernel
theorem dX6_isImage_74 : decode cX6_isImage 74 = .ok (.ishl, 1) := by decide +kernel
theorem dX6_isImage_75 : decode cX6_isImage 75 = .ok (.if_icmp .ge 7, 3) := by decide +kernel
theorem dX6_isImage_78 : decode cX6_isImage 78 = .ok (.iconst 1, 1) := by decide +kernel
theorem dX6_isImage_79 : decode cX6_isImage 79 = .ok (.goto 4, 3) := by decide +kernel
theorem dX6_isImage_82 : decode cX6_isImage 82 = .ok (.iconst 0, 1) := by decide +kernel
theorem dX6_isImage_83 : decode cX6_isImage 83 = .ok (.ireturn, 1) := by decide +kernel
theorem dX7_init_0 : decode cX7_init 0 = .ok (.aload_n 0, 1) := by decide +kernel
theorem dX7_init_1 : decode cX7_init 1 = .ok (.invokespecial 1, 3) := by decide +kernel
theorem dX7_init_4 : decode cX7_init 4 = .ok (.aload_n 0, 1) := by decide +kernel
theorem dX7_init_5 : decode cX7_init 5 = .ok (.sipush 1800, 3) := by decide +kernel
theorem dX7_init_8 : decode cX7_init 8 = .ok (.newarray .int, 2) := by decide +kernel
theorem dX7_init_10 : decode cX7_init 10 = .ok (.putfield 7, 3) := by decide +kernel
theorem dX7_init_13 : decode cX7_init 13 = .ok (.aload_n 0, 1) := by decide +kernel
theorem dX7_init_14 : decode cX7_init 14 = .ok (.iconst 0, 1) := by decide +kernel
theorem dX7_init_15 : decode cX7_init 15 = .ok (.putfield 13, 3) := by decide +kernel
theorem dX7_init_18 : decode cX7_init 18 = .ok (.aload_n 0, 1) := by decide +kernel
theorem dX7_init_19 : decode cX7_init 19 = .ok (.iconst 0, 1) := by decide +kernel
theorem dX7_init_20 : decode cX7_init 20 = .ok (.putfield 17, 3) := by decide +kernel
theorem dX7_init_23 : decode cX7_init 23 = .ok (.aload_n 0, 1) := by decide +kernel
theorem dX7_init_24 : decode cX7_init 24 = .ok (.iconst 0, 1) := by decide +kernel
theorem dX7_init_25 : decode cX7_init 25 = .ok (.putfield 20, 3) := by decide +kernel
theorem dX7_init_28 : decode cX7_init 28 = .ok (.aload_n 0, 1) := by decide +kernel
theorem dX7_init_29 : decode cX7_init 29 = .ok (.iconst 0, 1) := by decide +kernel
theorem dX7_init_30 : decode cX7_init 30 = .ok (.putfield 23, 3) := by decide +kernel
theorem dX7_init_33 : decode cX7_init 33 = .ok (.aload_n 0, 1) := by decide +kernel
theorem dX7_init_34 : decode cX7_init 34 = .ok (.iconst 0, 1) := by decide +kernel
theorem dX7_init_35 : decode cX7_init 35 = .ok (.putfield 26, 3) := by decide +kernel
theorem dX7_init_38 : decode cX7_init 38 = .ok (.aload_n 0, 1) := by decide +kernel
theorem dX7_init_39 : decode cX7_init 39 = .ok (.iconst 0, 1) := by decide +kernel
theorem dX7_init_40 : decode cX7_init 40 = .ok (.putfield 29, 3) := by decide +kernel
theorem dX7_init_43 : decode cX7_init 43 = .ok (.aload_n 0, 1) := by decide +kernel
theorem dX7_init_44 : decode cX7_init 44 = .ok (.lconst 0, 1) := by decide +kernel
theorem dX7_init_45 : decode cX7_init 45 = .ok (.putfield 32, 3) := by decide +kernel
theorem dX7_init_48 : decode cX7_init 48 = .ok (.aload_n 0, 1) := by decide +kernel
theorem dX7_init_49 : decode cX7_init 49 = .ok (.iconst 0, 1) := by decide +kernel
theorem dX7_init_50 : decode cX7_init 50 = .ok (.putfield 36, 3) := by decide +kernel
theorem dX7_init_53 : decode cX7_init 53 = .ok (.aload_n 0, 1) := by decide +kernel
theorem dX7_init_54 : decode cX7_init 54 = .ok (.iconst (-1), 1) := by decide +kernel
theorem dX7_init_55 : decode cX7_init 55 = .ok (.putfield 39, 3) := by decide +kernel
theorem dX7_init_58 : decode cX7_init 58 = .ok (.aload_n 0, 1) := by decide +kernel
theorem dX7_init_59 : decode cX7_init 59 = .ok (.iconst 0, 1) := by decide +kernel
theorem dX7_init_60 : decode cX7_init 60 = .ok (.putfield 42, 3) := by decide +kernel
theorem dX7_init_63 : decode cX7_init 63 = .ok (.aload_n 0, 1) := by decide +kernel
theorem dX7_init_64 : decode cX7_init 64 = .ok (.iconst (-1), 1) := by decide +kernel
theorem dX7_init_65 : decode cX7_init 65 = .ok (.putfield 45, 3) := by decide +kernel
theorem dX7_init_68 : decode cX7_init 68 = .ok (.aload_n 0, 1) := by decide +kernel
theorem dX7_init_69 : decode cX7_init 69 = .ok (.iconst (-1), 1) := by decide +kernel
theorem dX7_init_70 : decode cX7_init 70 = .ok (.putfield 48, 3) := by decide +kernel
theorem dX7_init_73 : decode cX7_init 73 = .ok (.aload_n 0, 1) := by decide +kernel
theorem dX7_init_74 : decode cX7_init 74 = .ok (.iconst 0, 1) := by decide +kernel
theorem dX7_init_75 : decode cX7_init 75 = .ok (.putfield 51, 3) := by decide +kernel
theorem dX7_init_78 : decode cX7_init 78 = .ok (.aload_n 0, 1) := by decide +kernel
theorem dX7_init_79 : decode cX7_init 79 = .ok (.iconst 2, 1) := by decide +kernel
theorem dX7_init_80 : decode cX7_init 80 = .ok (.newarray .int, 2) := by decide +kernel
theorem dX7_init_82 : decode cX7_init 82 = .ok (.putfield 54, 3) := by decide +kernel
theorem dX7_init_85 : decode cX7_init 85 = .ok (.aload_n 0, 1) := by decide +kernel
theorem dX7_init_86 : decode cX7_init 86 = .ok (.bipush 20, 2) := by decide +kernel
theorem dX7_init_88 : decode cX7_init 88 = .ok (.newarray .int, 2) := by decide +kernel
theorem dX7_init_90 : decode cX7_init 90 = .ok (.putfield 57, 3) := by decide +kernel
theorem dX7_init_93 : decode cX7_init 93 = .ok (.aload_n 0, 1) := by decide +kernel
theorem dX7_init_94 : decode cX7_init 94 = .ok (.bipush 20, 2) := by decide +kernel
theorem dX7_init_96 : decode cX7_init 96 = .ok (.newarray .int, 2) := by decide +kernel
theorem dX7_init_98 : decode cX7_init 98 = .ok (.putfield 60, 3) := by decide +kernel
theorem dX7_init_101 : decode cX7_init 101 = .ok (.aload_n 0, 1) := by decide +kernel
theorem dX7_init_102 : decode cX7_init 102 = .ok (.bipush 20, 2) := by decide +kernel
theorem dX7_init_104 : decode cX7_init 104 = .ok (.newarray .int, 2) := by decide +kernel
theorem dX7_init_106 : decode cX7_init 106 = .ok (.putfield 63, 3) := by decide +kernel
theorem dX7_init_109 : decode cX7_init 109 = .ok (.aload_n 0, 1) := by decide +kernel
theorem dX7_init_110 : decode cX7_init 110 = .ok (.iconst 2, 1) := by decide +kernel
theorem dX7_init_111 : decode cX7_init 111 = .ok (.newarray .int, 2) := by decide +kernel
theorem dX7_init_113 : decode cX7_init 113 = .ok (.putfield 66, 3) := by decide +kernel
theorem dX7_init_116 : decode cX7_init 116 = .ok (.aload_n 0, 1) := by decide +kernel
theorem dX7_init_117 : decode cX7_init 117 = .ok (.bipush 24, 2) := by decide +kernel
theorem dX7_init_119 : decode cX7_init 119 = .ok (.newarray .int, 2) := by decide +kernel
theorem dX7_init_121 : decode cX7_init 121 = .ok (.putfield 69, 3) := by decide +kernel
theorem dX7_init_124 : decode cX7_init 124 = .ok (.aload_n 0, 1) := by decide +kernel
theorem dX7_init_125 : decode cX7_init 125 = .ok (.bipush 24, 2) := by decide +kernel
theorem dX7_init_127 : decode cX7_init 127 = .ok (.newarray .int, 2) := by decide +kernel
theorem dX7_init_129 : decode cX7_init 129 = .ok (.putfield 72, 3) := by decide +kernel
theorem dX7_init_132 : decode cX7_init 132 = .ok (.aload_n 0, 1) := by decide +kernel
theorem dX7_init_133 : decode cX7_init 133 = .ok (.bipush 24, 2) := by decide +kernel
theorem dX7_init_135 : decode cX7_init 135 = .ok (.newarray .int, 2) := by decide +kernel
theorem dX7_init_137 : decode cX7_init 137 = .ok (.putfield 75, 3) := by decide +kernel
theorem dX7_init_140 : decode cX7_init 140 = .ok (.aload_n 0, 1) := by decide +kernel
theorem dX7_init_141 : decode cX7_init 141 = .ok (.bipush 24, 2) := by decide +kernel
theorem dX7_init_143 : decode cX7_init 143 = .ok (.newarray .int, 2) := by decide +kernel
theorem dX7_init_145 : decode cX7_init 145 = .ok (.putfield 78, 3) := by decide +kernel
theorem dX7_init_148 : decode cX7_init 148 = .ok (.aload_n 0, 1) := by decide +kernel
theorem dX7_init_149 : decode cX7_init 149 = .ok (.iconst 2, 1) := by decide +kernel
theorem dX7_init_150 : decode cX7_init 150 = .ok (.newarray .int, 2) := by decide +kernel
theorem dX7_init_152 : decode cX7_init 152 = .ok (.putfield 81, 3) := by decide +kernel
theorem dX7_init_155 : decode cX7_init 155 = .ok (.aload_n 0, 1) := by decide +kernel
theorem dX7_init_156 : decode cX7_init 156 = .ok (.iconst 2, 1) := by decide +kernel
theorem dX7_init_157 : decode cX7_init 157 = .ok (.newarray .int, 2) := by decide +kernel
theorem dX7_init_159 : decode cX7_init 159 = .ok (.putfield 84, 3) := by decide +kernel
theorem dX7_init_162 : decode cX7_init 162 = .ok (.aload_n 0, 1) := by decide +kernel
theorem dX7_init_163 : decode cX7_init 163 = .ok (.iconst 2, 1) := by decide +kernel
theorem dX7_init_164 : decode cX7_init 164 = .ok (.newarray .int, 2) := by decide +kernel
theorem dX7_init_166 : decode cX7_init 166 = .ok (.putfield 87, 3) := by decide +kernel
theorem dX7_init_169 : decode cX7_init 169 = .ok (.aload_n 0, 1) := by decide +kernel
theorem dX7_init_170 : decode cX7_init 170 = .ok (.iconst 2, 1) := by decide +kernel
theorem dX7_init_171 : decode cX7_init 171 = .ok (.newarray .int, 2) := by decide +kernel
theorem dX7_init_173 : decode cX7_init 173 = .ok (.putfield 90, 3) := by decide +kernel
theorem dX7_init_176 : decode cX7_init 176 = .ok (.aload_n 0, 1) := by decide +kernel
theorem dX7_init_177 : decode cX7_init 177 = .ok (.iconst 2, 1) := by decide +kernel
theorem dX7_init_178 : decode cX7_init 178 = .ok (.newarray .int, 2) := by decide +kernel
theorem dX7_init_180 : decode cX7_init 180 = .ok (.putfield 93, 3) := by decide +kernel
theorem dX7_init_183 : decode cX7_init 183 = .ok (.aload_n 0, 1) := by decide +kernel
theorem dX7_init_184 : decode cX7_init 184 = .ok (.iconst 2, 1) := by decide +kernel
theorem dX7_init_185 : decode cX7_init 185 = .ok (.newarray .int, 2) := by decide +kernel
theorem dX7_init_187 : decode cX7_init 187 = .ok (.putfield 96, 3) := by decide +kernel
theorem dX7_init_190 : decode cX7_init 190 = .ok (.aload_n 0, 1) := by decide +kernel
theorem dX7_init_191 : decode cX7_init 191 = .ok (.iconst 2, 1) := by decide +kernel
theorem dX7_init_192 : decode cX7_init 192 = .ok (.newarray .int, 2) := by decide +kernel
theorem dX7_init_194 : decode cX7_init 194 = .ok (.putfield 99, 3) := by decide +kernel
theorem dX7_init_197 : decode cX7_init 197 = .ok (.aload_n 0, 1) := by decide +kernel
theorem dX7_init_198 : decode cX7_init 198 = .ok (.iconst 2, 1) := by decide +kernel
theorem dX7_init_199 : decode cX7_init 199 = .ok (.newarray .int, 2) := by decide +kernel
theorem dX7_init_201 : decode cX7_init 201 = .ok (.putfield 102, 3) := by decide +kernel
theorem dX7_init_204 : decode cX7_init 204 = .ok (.aload_n 0, 1) := by decide +kernel
theorem dX7_init_205 : decode cX7_init 205 = .ok (.iconst 2, 1) := by decide +kernel
theorem dX7_init_206 : decode cX7_init 206 = .ok (.newarray .int, 2) := by decide +kernel
theorem dX7_init_208 : decode cX7_init 208 = .ok (.putfield 105, 3) := by decide +kernel
theorem dX7_init_211 : decode cX7_init 211 = .ok (.aload_n 0, 1) := by decide +kernel
theorem dX7_init_212 : decode cX7_init 212 = .ok (.sipush 3200, 3) := by decide +kernel
theorem dX7_init_215 : decode cX7_init 215 = .ok (.newarray .int, 2) := by decide +kernel
theorem dX7_init_217 : decode cX7_init 217 = .ok (.putfield 108, 3) := by decide +kernel
theorem dX7_init_220 : decode cX7_init 220 = .ok (.aload_n 0, 1) := by decide +kernel
theorem dX7_init_221 : decode cX7_init 221 = .ok (.sipush 3200, 3) := by decide +kernel
theorem dX7_init_224 : decode cX7_init 224 = .ok (.newarray .int, 2) := by decide +kernel
theorem dX7_init_226 : decode cX7_init 226 = .ok (.putfield 111, 3) := by decide +kernel
theorem dX7_init_229 : decode cX7_init 229 = .ok (.aload_n 0, 1) := by decide +kernel
theorem dX7_init_230 : decode cX7_init 230 = .ok (.bipush 20, 2) := by decide +kernel
theorem dX7_init_232 : decode cX7_init 232 = .ok (.newarray .long, 2) := by decide +kernel
theorem dX7_init_234 : decode cX7_init 234 = .ok (.putfield 114, 3) := by decide +kernel
theorem dX7_init_237 : decode cX7_init 237 = .ok (.aload_n 0, 1) := by decide +kernel
theorem dX7_init_238 : decode cX7_init 238 = .ok (.bipush 24, 2) := by decide +kernel
theorem dX7_init_240 : decode cX7_init 240 = .ok (.newarray .long, 2) := by decide +kernel
theorem dX7_init_242 : decode cX7_init 242 = .ok (.putfield 118, 3) := by decide +kernel
theorem dX7_init_245 : decode cX7_init 245 = .ok (.aload_n 0, 1) := by decide +kernel
theorem dX7_init_246 : decode cX7_init 246 = .ok (.iconst 0, 1) := by decide +kernel
theorem dX7_init_247 : decode cX7_init 247 = .ok (.putfield 121, 3) := by decide +kernel
theorem dX7_init_250 : decode cX7_init 250 = .ok (.aload_n 0, 1) := by decide +kernel
theorem dX7_init_251 : decode cX7_init 251 = .ok (.iconst 1, 1) := by decide +kernel
theorem dX7_init_252 : decode cX7_init 252 = .ok (.putfield 124, 3) := by decide +kernel
theorem dX7_init_255 : decode cX7_init 255 = .ok (.aload_n 0, 1) := by decide +kernel
theorem dX7_init_256 : decode cX7_init 256 = .ok (.bipush 20, 2) := by decide +kernel
theorem dX7_init_258 : decode cX7_init 258 = .ok (.newarray .int, 2) := by decide +kernel
theorem dX7_init_260 : decode cX7_init 260 = .ok (.putfield 127, 3) := by decide +kernel
theorem dX7_init_263 : decode cX7_init 263 = .ok (.aload_n 0, 1) := by decide +kernel
theorem dX7_init_264 : decode cX7_init 264 = .ok (.bipush 20, 2) := by decide +kernel
theorem dX7_init_266 : decode cX7_init 266 = .ok (.newarray .int, 2) := by decide +kernel
theorem dX7_init_268 : decode cX7_init 268 = .ok (.putfield 130, 3) := by decide +kernel
theorem dX7_init_271 : decode cX7_init 271 = .ok (.aload_n 0, 1) := by decide +kernel
theorem dX7_init_272 : decode cX7_init 272 = .ok (.bipush 20, 2) := by decide +kernel
theorem dX7_init_274 : decode cX7_init 274 = .ok (.newarray .boolean, 2) := by decide +kernel
theorem dX7_init_276 : decode cX7_init 276 = .ok (.putfield 133, 3) := by decide +kernel
theorem dX7_init_279 : decode cX7_init 279 = .ok (.aload_n 0, 1) := by decide +kernel
theorem dX7_init_280 : decode cX7_init 280 = .ok (.bipush 20, 2) := by decide +kernel
theorem dX7_init_282 : decode cX7_init 282 = .ok (.newarray .int, 2) := by decide +kernel
theorem dX7_init_284 : decode cX7_init 284 = .ok (.putfield 137, 3) := by decide +kernel
theorem dX7_init_287 : decode cX7_init 287 = .ok (.aload_n 0, 1) := by decide +kernel
theorem dX7_init_288 : decode cX7_init 288 = .ok (.bipush 20, 2) := by decide +kernel
theorem dX7_init_290 : decode cX7_init 290 = .ok (.newarray .int, 2) := by decide +kernel
theorem dX7_init_292 : decode cX7_init 292 = .ok (.putfield 140, 3) := by decide +kernel
theorem dX7_init_295 : decode cX7_init 295 = .ok (.aload_n 0, 1) := by decide +kernel
theorem dX7_init_296 : decode cX7_init 296 = .ok (.iconst 0, 1) := by decide +kernel
theorem dX7_init_297 : decode cX7_init 297 = .ok (.putfield 143, 3) := by decide +kernel
theorem dX7_init_300 : decode cX7_init 300 = .ok (.aload_n 0, 1) := by decide +kernel
theorem dX7_init_301 : decode cX7_init 301 = .ok (.iconst 0, 1) := by decide +kernel
theorem dX7_init_302 : decode cX7_init 302 = .ok (.putfield 146, 3) := by decide +kernel
theorem dX7_init_305 : decode cX7_init 305 = .ok (.aload_n 0, 1) := by decide +kernel
theorem dX7_init_306 : decode cX7_init 306 = .ok (.sipush 500, 3) := by decide +kernel
theorem dX7_init_309 : decode cX7_init 309 = .ok (.newarray .int, 2) := by decide +kernel
theorem dX7_init_311 : decode cX7_init 311 = .ok (.putfield 149, 3) := by decide +kernel
theorem dX7_init_314 : decode cX7_init 314 = .ok (.aload_n 0, 1) := by decide +kernel
theorem dX7_init_315 : decode cX7_init 315 = .ok (.iconst 0, 1) := by decide +kernel
theorem dX7_init_316 : decode cX7_init 316 = .ok (.putfield 152, 3) := by decide +kernel
theorem dX7_init_319 : decode cX7_init 319 = .ok (.aload_n 0, 1) := by decide +kernel
theorem dX7_init_320 : decode cX7_init 320 = .ok (.iconst 0, 1) := by decide +kernel
theorem dX7_init_321 : decode cX7_init 321 = .ok (.putfield 155, 3) := by decide +kernel
theorem dX7_init_324 : decode cX7_init 324 = .ok (.aload_n 0, 1) := by decide +kernel
theorem dX7_init_325 : decode cX7_init 325 = .ok (.bipush 6, 2) := by decide +kernel
theorem dX7_init_327 : decode cX7_init 327 = .ok (.newarray .int, 2) := by decide +kernel
theorem dX7_init_329 : decode cX7_init 329 = .ok (.putfield 159, 3) := by decide +kernel
theorem dX7_init_332 : decode cX7_init 332 = .ok (.aload_n 0, 1) := by decide +kernel
theorem dX7_init_333 : decode cX7_init 333 = .ok (.bipush 22, 2) := by decide +kernel
theorem dX7_init_335 : decode cX7_init 335 = .ok (.newarray .int, 2) := by decide +kernel
theorem dX7_init_337 : decode cX7_init 337 = .ok (.putfield 162, 3) := by decide +kernel
theorem dX7_init_340 : decode cX7_init 340 = .ok (.aload_n 0, 1) := by decide +kernel
theorem dX7_init_341 : decode cX7_init 341 = .ok (.bipush 22, 2) := by decide +kernel
theorem dX7_init_343 : decode cX7_init 343 = .ok (.newarray .int, 2) := by decide +kernel
theorem dX7_init_345 : decode cX7_init 345 = .ok (.putfield 165, 3) := by decide +kernel
theorem dX7_init_348 : decode cX7_init 348 = .ok (.aload_n 0, 1) := by decide +kernel
theorem dX7_init_349 : decode cX7_init 349 = .ok (.bipush 22, 2) := by decide +kernel
theorem dX7_init_351 : decode cX7_init 351 = .ok (.newarray .int, 2) := by decide +kernel
theorem dX7_init_353 : decode cX7_init 353 = .ok (.putfield 168, 3) := by decide +kernel
theorem dX7_init_356 : decode cX7_init 356 = .ok (.aload_n 0, 1) := by decide +kernel
theorem dX7_init_357 : decode cX7_init 357 = .ok (.bipush 22, 2) := by decide +kernel
theorem dX7_init_359 : decode cX7_init 359 = .ok (.newarray .int, 2) := by decide +kernel
theorem dX7_init_361 : decode cX7_init 361 = .ok (.putfield 171, 3) := by decide +kernel
theorem dX7_init_364 : decode cX7_init 364 = .ok (.aload_n 0, 1) := by decide +kernel
theorem dX7_init_365 : decode cX7_init 365 = .ok (.bipush 22, 2) := by decide +kernel
theorem dX7_init_367 : decode cX7_init 367 = .ok (.newarray .int, 2) := by decide +kernel
theorem dX7_init_369 : decode cX7_init 369 = .ok (.putfield 174, 3) := by decide +kernel
theorem dX7_init_372 : decode cX7_init 372 = .ok (.aload_n 0, 1) := by decide +kernel
theorem dX7_init_373 : decode cX7_init 373 = .ok (.sipush 1100, 3) := by decide +kernel
theorem dX7_init_376 : decode cX7_init 376 = .ok (.newarray .int, 2) := by decide +kernel
theorem dX7_init_378 : decode cX7_init 378 = .ok (.putfield 177, 3) := by decide +kernel
theorem dX7_init_381 : decode cX7_init 381 = .ok (.aload_n 0, 1) := by decide +kernel
theorem dX7_init_382 : decode cX7_init 382 = .ok (.sipush 1100, 3) := by decide +kernel
theorem dX7_init_385 : decode cX7_init 385 = .ok (.newarray .int, 2) := by decide +kernel
theorem dX7_init_387 : decode cX7_init 387 = .ok (.putfield 180, 3) := by decide +kernel
theorem dX7_init_390 : decode cX7_init 390 = .ok (.aload_n 0, 1) := by decide +kernel
theorem dX7_init_391 : decode cX7_init 391 = .ok (.sipush 1100, 3) := by decide +kernel
theorem dX7_init_394 : decode cX7_init 394 = .ok (.newarray .int, 2) := by decide +kernel
theorem dX7_init_396 : decode cX7_init 396 = .ok (.putfield 183, 3) := by decide +kernel
theorem dX7_init_399 : decode cX7_init 399 = .ok (.aload_n 0, 1) := by decide +kernel
theorem dX7_init_400 : decode cX7_init 400 = .ok (.sipush 1100, 3) := by decide +kernel
theorem dX7_init_403 : decode cX7_init 403 = .ok (.newarray .int, 2) := by decide +kernel
theorem dX7_init_405 : decode cX7_init 405 = .ok (.putfield 186, 3) := by decide +kernel
theorem dX7_init_408 : decode cX7_init 408 = .ok (.aload_n 0, 1) := by decide +kernel
theorem dX7_init_409 : decode cX7_init 409 = .ok (.iconst 0, 1) := by decide +kernel
theorem dX7_init_410 : decode cX7_init 410 = .ok (.putfield 189, 3) := by decide +kernel
theorem dX7_init_413 : decode cX7_init 413 = .ok (.aload_n 0, 1) := by decide +kernel
theorem dX7_init_414 : decode cX7_init 414 = .ok (.iconst 0, 1) := by decide +kernel
theorem dX7_init_415 : decode cX7_init 415 = .ok (.putfield 192, 3) := by decide +kernel
theorem dX7_init_418 : decode cX7_init 418 = .ok (.aload_n 0, 1) := by decide +kernel
theorem dX7_init_419 : decode cX7_init 419 = .ok (.lconst 1, 1) := by decide +kernel
theorem dX7_init_420 : decode cX7_init 420 = .ok (.putfield 195, 3) := by decide +kernel
theorem dX7_init_423 : decode cX7_init 423 = .ok (.aload_n 0, 1) := by decide +kernel
theorem dX7_init_424 : decode cX7_init 424 = .ok (.sipush 500, 3) := by decide +kernel
theorem dX7_init_427 : decode cX7_init 427 = .ok (.newarray .long, 2) := by decide +kernel
theorem dX7_init_429 : decode cX7_init 429 = .ok (.putfield 198, 3) := by decide +kernel
theorem dX7_init_432 : decode cX7_init 432 = .ok (.aload_n 0, 1) := by decide +kernel
theorem dX7_init_433 : decode cX7_init 433 = .ok (.iconst 0, 1) := by decide +kernel
theorem dX7_init_434 : decode cX7_init 434 = .ok (.putfield 201, 3) := by decide +kernel
theorem dX7_init_437 : decode cX7_init 437 = .ok (.aload_n 0, 1) := by decide +kernel
theorem dX7_init_438 : decode cX7_init 438 = .ok (.iconst 0, 1) := by decide +kernel
theorem dX7_init_439 : decode cX7_init 439 = .ok (.putfield 204, 3) := by decide +kernel
theorem dX7_init_442 : decode cX7_init 442 = .ok (.aload_n 0, 1) := by decide +kernel
theorem dX7_init_443 : decode cX7_init 443 = .ok (.iconst 0, 1) := by decide +kernel
theorem dX7_init_444 : decode cX7_init 444 = .ok (.putfield 207, 3) := by decide +kernel
theorem dX7_init_447 : decode cX7_init 447 = .ok (.aload_n 0, 1) := by decide +kernel
theorem dX7_init_448 : decode cX7_init 448 = .ok (.iconst 0, 1) := by decide +kernel
theorem dX7_init_449 : decode cX7_init 449 = .ok (.putfield 210, 3) := by decide +kernel
theorem dX7_init_452 : decode cX7_init 452 = .ok (.aload_n 0, 1) := by decide +kernel
theorem dX7_init_453 : decode cX7_init 453 = .ok (.iconst (-1), 1) := by decide +kernel
theorem dX7_init_454 : decode cX7_init 454 = .ok (.putfield 213, 3) := by decide +kernel
theorem dX7_init_457 : decode cX7_init 457 = .ok (.aload_n 0, 1) := by decide +kernel
theorem dX7_init_458 : decode cX7_init 458 = .ok (.iconst (-1), 1) := by decide +kernel
theorem dX7_init_459 : decode cX7_init 459 = .ok (.putfield 216, 3) := by decide +kernel
theorem dX7_init_462 : decode cX7_init 462 = .ok (.aload_n 0, 1) := by decide +kernel
theorem dX7_init_463 : decode cX7_init 463 = .ok (.iconst 0, 1) := by decide +kernel
theorem dX7_init_464 : decode cX7_init 464 = .ok (.putfield 219, 3) := by decide +kernel
theorem dX7_init_467 : decode cX7_init 467 = .ok (.aload_n 0, 1) := by decide +kernel
theorem dX7_init_468 : decode cX7_init 468 = .ok (.iconst 0, 1) := by decide +kernel
theorem dX7_init_469 : decode cX7_init 469 = .ok (.putfield 222, 3) := by decide +kernel
theorem dX7_init_472 : decode cX7_init 472 = .ok (.aload_n 0, 1) := by decide +kernel
theorem dX7_init_473 : decode cX7_init 473 = .ok (.iconst 0, 1) := by decide +kernel
theorem dX7_init_474 : decode cX7_init 474 = .ok (.putfield 225, 3) := by decide +kernel
theorem dX7_init_477 : decode cX7_init 477 = .ok (.aload_n 0, 1) := by decide +kernel
theorem dX7_init_478 : decode cX7_init 478 = .ok (.iconst 0, 1) := by decide +kernel
theorem dX7_init_479 : decode cX7_init 479 = .ok (.putfield 228, 3) := by decide +kernel
theorem dX7_init_482 : decode cX7_init 482 = .ok (.aload_n 0, 1) := by decide +kernel
theorem dX7_init_483 : decode cX7_init 483 = .ok (.sipush 9216, 3) := by decide +kernel
theorem dX7_init_486 : decode cX7_init 486 = .ok (.newarray .int, 2) := by decide +kernel
theorem dX7_init_488 : decode cX7_init 488 = .ok (.putfield 231, 3) := by decide +kernel
theorem dX7_init_491 : decode cX7_init 491 = .ok (.aload_n 0, 1) := by decide +kernel
theorem dX7_init_492 : decode cX7_init 492 = .ok (.sipush 9216, 3) := by decide +kernel
theorem dX7_init_495 : decode cX7_init 495 = .ok (.newarray .int, 2) := by decide +kernel
theorem dX7_init_497 : decode cX7_init 497 = .ok (.putfield 234, 3) := by decide +kernel
theorem dX7_init_500 : decode cX7_init 500 = .ok (.aload_n 0, 1) := by decide +kernel
theorem dX7_init_501 : decode cX7_init 501 = .ok (.sipush 9216, 3) := by decide +kernel
theorem dX7_init_504 : decode cX7_init 504 = .ok (.newarray .int, 2) := by decide +kernel
theorem dX7_init_506 : decode cX7_init 506 = .ok (.putfield 237, 3) := by decide +kernel
theorem dX7_init_509 : decode cX7_init 509 = .ok (.aload_n 0, 1) := by decide +kernel
theorem dX7_init_510 : decode cX7_init 510 = .ok (.iconst (-1), 1) := by decide +kernel
theorem dX7_init_511 : decode cX7_init 511 = .ok (.putfield 240, 3) := by decide +kernel
theorem dX7_init_514 : decode cX7_init 514 = .ok (.aload_n 0, 1) := by decide +kernel
theorem dX7_init_515 : decode cX7_init 515 = .ok (.iconst 0, 1) := by decide +kernel
theorem dX7_init_516 : decode cX7_init 516 = .ok (.putfield 243, 3) := by decide +kernel
theorem dX7_init_519 : decode cX7_init 519 = .ok (.aload_n 0, 1) := by decide +kernel
theorem dX7_init_520 : decode cX7_init 520 = .ok (.iconst 0, 1) := by decide +kernel
theorem dX7_init_521 : decode cX7_init 521 = .ok (.putfield 246, 3) := by decide +kernel
theorem dX7_init_524 : decode cX7_init 524 = .ok (.aload_n 0, 1) := by decide +kernel
theorem dX7_init_525 : decode cX7_init 525 = .ok (.bipush 20, 2) := by decide +kernel
theorem dX7_init_527 : decode cX7_init 527 = .ok (.newarray .int, 2) := by decide +kernel
theorem dX7_init_529 : decode cX7_init 529 = .ok (.putfield 249, 3) := by decide +kernel
theorem dX7_init_532 : decode cX7_init 532 = .ok (.aload_n 0, 1) := by decide +kernel
theorem dX7_init_533 : decode cX7_init 533 = .ok (.bipush 20, 2) := by decide +kernel
theorem dX7_init_535 : decode cX7_init 535 = .ok (.newarray .int, 2) := by decide +kernel
theorem dX7_init_537 : decode cX7_init 537 = .ok (.putfield 252, 3) := by decide +kernel
theorem dX7_init_540 : decode cX7_init 540 = .ok (.aload_n 0, 1) := by decide +kernel
theorem dX7_init_541 : decode cX7_init 541 = .ok (.iconst (-1), 1) := by decide +kernel
theorem dX7_init_542 : decode cX7_init 542 = .ok (.putfield 255, 3) := by decide +kernel
theorem dX7_init_545 : decode cX7_init 545 = .ok (.aload_n 0, 1) := by decide +kernel
theorem dX7_init_546 : decode cX7_init 546 = .ok (.bipush 13, 2) := by decide +kernel
theorem dX7_init_548 : decode cX7_init 548 = .ok (.newarray .long, 2) := by decide +kernel
theorem dX7_init_550 : decode cX7_init 550 = .ok (.putfield 258, 3) := by decide +kernel
theorem dX7_init_553 : decode cX7_init 553 = .ok (.aload_n 0, 1) := by decide +kernel
theorem dX7_init_554 : decode cX7_init 554 = .ok (.bipush 13, 2) := by decide +kernel
theorem dX7_init_556 : decode cX7_init 556 = .ok (.newarray .int, 2) := by decide +kernel
theorem dX7_init_558 : decode cX7_init 558 = .ok (.putfield 261, 3) := by decide +kernel
theorem dX7_init_561 : decode cX7_init 561 = .ok (.aload_n 0, 1) := by decide +kernel
theorem dX7_init_562 : decode cX7_init 562 = .ok (.bipush 13, 2) := by decide +kernel
theorem dX7_init_564 : decode cX7_init 564 = .ok (.newarray .int, 2) := by decide +kernel
theorem dX7_init_566 : decode cX7_init 566 = .ok (.putfield 264, 3) := by decide +kernel
theorem dX7_init_569 : decode cX7_init 569 = .ok (.aload_n 0, 1) := by decide +kernel
theorem dX7_init_570 : decode cX7_init 570 = .ok (.bipush 12, 2) := by decide +kernel
theorem dX7_init_572 : decode cX7_init 572 = .ok (.newarray .int, 2) := by decide +kernel
theorem dX7_init_574 : decode cX7_init 574 = .ok (.putfield 267, 3) := by decide +kernel
theorem dX7_init_577 : decode cX7_init 577 = .ok (.aload_n 0, 1) := by decide +kernel
theorem dX7_init_578 : decode cX7_init 578 = .ok (.bipush 6, 2) := by decide +kernel
theorem dX7_init_580 : decode cX7_init 580 = .ok (.newarray .int, 2) := by decide +kernel
theorem dX7_init_582 : decode cX7_init 582 = .ok (.putfield 270, 3) := by decide +kernel
theorem dX7_init_585 : decode cX7_init 585 = .ok (.aload_n 0, 1) := by decide +kernel
theorem dX7_init_586 : decode cX7_init 586 = .ok (.iconst 5, 1) := by decide +kernel
theorem dX7_init_587 : decode cX7_init 587 = .ok (.newarray .int, 2) := by decide +kernel
theorem dX7_init_589 : decode cX7_init 589 = .ok (.putfield 273, 3) := by decide +kernel
theorem dX7_init_592 : decode cX7_init 592 = .ok (.aload_n 0, 1) := by decide +kernel
theorem dX7_init_593 : decode cX7_init 593 = .ok (.iconst 5, 1) := by decide +kernel
theorem dX7_init_594 : decode cX7_init 594 = .ok (.newarray .int, 2) := by decide +kernel
theorem dX7_init_596 : decode cX7_init 596 = .ok (.putfield 276, 3) := by decide +kernel
theorem dX7_init_599 : decode cX7_init 599 = .ok (.aload_n 0, 1) := by decide +kernel
theorem dX7_init_600 : decode cX7_init 600 = .ok (.iconst 5, 1) := by decide +kernel
theorem dX7_init_601 : decode cX7_init 601 = .ok (.newarray .int, 2) := by decide +kernel
theorem dX7_init_603 : decode cX7_init 603 = .ok (.putfield 279, 3) := by decide +kernel
theorem dX7_init_606 : decode cX7_init 606 = .ok (.aload_n 0, 1) := by decide +kernel
theorem dX7_init_607 : decode cX7_init 607 = .ok (.bipush 6, 2) := by decide +kernel
theorem dX7_init_609 : decode cX7_init 609 = .ok (.newarray .int, 2) := by decide +kernel
theorem dX7_init_611 : decode cX7_init 611 = .ok (.putfield 282, 3) := by decide +kernel
theorem dX7_init_614 : decode cX7_init 614 = .ok (.aload_n 0, 1) := by decide +kernel
theorem dX7_init_615 : decode cX7_init 615 = .ok (.bipush 12, 2) := by decide +kernel
theorem dX7_init_617 : decode cX7_init 617 = .ok (.newarray .int, 2) := by decide +kernel
theorem dX7_init_619 : decode cX7_init 619 = .ok (.putfield 285, 3) := by decide +kernel
theorem dX7_init_622 : decode cX7_init 622 = .ok (.aload_n 0, 1) := by decide +kernel
theorem dX7_init_623 : decode cX7_init 623 = .ok (.iconst 0, 1) := by decide +kernel
theorem dX7_init_624 : decode cX7_init 624 = .ok (.putfield 288, 3) := by decide +kernel
theorem dX7_init_627 : decode cX7_init 627 = .ok (.aload_n 0, 1) := by decide +kernel
theorem dX7_init_628 : decode cX7_init 628 = .ok (.getfield 84, 3) := by decide +kernel
theorem dX7_init_631 : decode cX7_init 631 = .ok (.iconst 0, 1) := by decide +kernel
theorem dX7_init_632 : decode cX7_init 632 = .ok (.iconst (-1), 1) := by decide +kernel
theorem dX7_init_633 : decode cX7_init 633 = .ok (.iastore, 1) := by decide +kernel
theorem dX7_init_634 : decode cX7_init 634 = .ok (.aload_n 0, 1) := by decide +kernel
theorem dX7_init_635 : decode cX7_init 635 = .ok (.getfield 90, 3) := by decide +kernel
theorem dX7_init_638 : decode cX7_init 638 = .ok (.iconst 0, 1) := by decide +kernel
theorem dX7_init_639 : decode cX7_init 639 = .ok (.iconst (-1), 1) := by decide +kernel
theorem dX7_init_640 : decode cX7_init 640 = .ok (.iastore, 1) := by decide +kernel
theorem dX7_init_641 : decode cX7_init 641 = .ok (.aload_n 0, 1) := by decide +kernel
theorem dX7_init_642 : decode cX7_init 642 = .ok (.getfield 96, 3) := by decide +kernel
theorem dX7_init_645 : decode cX7_init 645 = .ok (.iconst 0, 1) := by decide +kernel
theorem dX7_init_646 : decode cX7_init 646 = .ok (.iconst (-1), 1) := by decide +kernel
theorem dX7_init_647 : decode cX7_init 647 = .ok (.iastore, 1) := by decide +kernel
theorem dX7_init_648 : decode cX7_init 648 = .ok (.aload_n 0, 1) := by decide +kernel
theorem dX7_init_649 : decode cX7_init 649 = .ok (.getfield 102, 3) := by decide +kernel
theorem dX7_init_652 : decode cX7_init 652 = .ok (.iconst 0, 1) := by decide +kernel
theorem dX7_init_653 : decode cX7_init 653 = .ok (.bipush 100, 2) := by decide +kernel
theorem dX7_init_655 : decode cX7_init 655 = .ok (.iastore, 1) := by decide +kernel
theorem dX7_init_656 : decode cX7_init 656 = .ok (.return_, 1) := by decide +kernel
theorem dX7_is_0 : decode cX7_is 0 = .ok (.iload_n 0, 1) := by decide +kernel
theorem dX7_is_1 : decode cX7_is 1 = .ok (.iload_n 1, 1) := by decide +kernel
theorem dX7_is_2 : decode cX7_is 2 = .ok (.if_icmp .lt 12, 3) := by decide +kernel
theorem dX7_is_5 : decode cX7_is 5 = .ok (.iload_n 0, 1) := by decide +kernel
theorem dX7_is_6 : decode cX7_is 6 = .ok (.iload_n 2, 1) := by decide +kernel
theorem dX7_is_7 : decode cX7_is 7 = .ok (.if_icmp .gt 7, 3) := by decide +kernel
theorem dX7_is_10 : decode cX7_is 10 = .ok (.iconst 1, 1) := by decide +kernel
theorem dX7_is_11 : decode cX7_is 11 = .ok (.goto 4, 3) := by decide +kernel
theorem dX7_is_14 : decode cX7_is 14 = .ok (.iconst 0, 1) := by decide +kernel
theorem dX7_is_15 : decode cX7_is 15 = .ok (.ireturn, 1) := by decide +kernel
theorem dX7_put_0 : decode cX7_put 0 = .ok (.bipush 24, 2) := by decide +kernel
theorem dX7_put_2 : decode cX7_put 2 = .ok (.istore_n 2, 1) := by decide +kernel
theorem dX7_put_3 : decode cX7_put 3 = .ok (.iload_n 2, 1) := by decide +kernel
theorem dX7_put_4 : decode cX7_put 4 = .ok (.ifCond .lt 35, 3) := by decide +kernel
theorem dX7_put_7 : decode cX7_put 7 = .ok (.aload_n 0, 1) := by decide +kernel
theorem dX7_put_8 : decode cX7_put 8 = .ok (.getfield 7, 3) := by decide +kernel
theorem dX7_put_11 : decode cX7_put 11 = .ok (.aload_n 0, 1) := by decide +kernel
theorem dX7_put_12 : decode cX7_put 12 = .ok (.getfield 13, 3) := by decide +kernel
theorem dX7_put_15 : decode cX7_put 15 = .ok (.iload_n 1, 1) := by decide +kernel
theorem dX7_put_16 : decode cX7_put 16 = .ok (.iload_n 2, 1) := by decide +kernel
theorem dX7_put_17 : decode cX7_put 17 = .ok (.ishr, 1) := by decide +kernel
theorem dX7_put_18 : decode cX7_put 18 = .ok (.sipush 255, 3) := by decide +kernel
theorem dX7_put_21 : decode cX7_put 21 = .ok (.iand, 1) := by decide +kernel
theorem dX7_put_22 : decode cX7_put 22 = .ok (.iastore, 1) := by decide +kernel
theorem dX7_put_23 : decode cX7_put 23 = .ok (.aload_n 0, 1) := by decide +kernel
theorem dX7_put_24 : decode cX7_put 24 = .ok (.dup, 1) := by decide +kernel
theorem dX7_put_25 : decode cX7_put 25 = .ok (.getfield 13, 3) := by decide +kernel
theorem dX7_put_28 : decode cX7_put 28 = .ok (.iconst 1, 1) := by decide +kernel
theorem dX7_put_29 : decode cX7_put 29 = .ok (.iadd, 1) := by decide +kernel
theorem dX7_put_30 : decode cX7_put 30 = .ok (.putfield 13, 3) := by decide +kernel
theorem dX7_put_33 : decode cX7_put 33 = .ok (.iinc 2 (-8), 3) := by decide +kernel
theorem dX7_put_36 : decode cX7_put 36 = .ok (.goto (-33), 3) := by decide +kernel
theorem dX7_put_39 : decode cX7_put 39 = .ok (.return_, 1) := by decide +kernel
set_option maxRecDepth 20000 in
theorem ggX7_feed_X7_refuses : GoodIn wsX7_feed wsX7_refuses := goodIn_r _ [6, 7, 13, 14, 15, 16, 17, 18, 19, 20, 21, 22, 23, 24, 25, 26, 27, 28, 29, 30, 31, 32, 33, 34, 35, 36, 37, 38, 39, 40, 41, 42, 43, 44, 45, 46, 47, 48, 49, 50, 51, 52, 53, 54, 55, 56, 57, 58, 59, 60, 61, 62, 63, 64, 65, 66, 67, 68, 69, 70, 71, 72, 73, 74, 75, 76, 77, 78, 79, 80, 81, 82, 83, 84, 85, 86, 87, 88, 89, 90, 91, 92, 93, 94, 95, 96, 97, 98, 99, 100, 101, 102, 103, 104] rfl (by decide +kernel)
set_option maxRecDepth 20000 in
theorem gX7_feed_X7_refuses : GoodIn wsX7_feed (wsV RX7 291 RX7 yX7_refuses wsX7_refuses) := goodIn_app (goodIn_of _ (by decide +kernel)) ggX7_feed_X7_refuses
set_option maxRecDepth 20000 in
theorem ggX7_feed_X7_put : GoodIn wsX7_feed wsX7_put := goodIn_r _ [11, 12, 1, 13, 14, 15, 16, 17, 18, 19, 20, 21, 22, 23, 24, 25, 26, 27, 28, 29, 30, 31, 32, 33, 34, 35, 36, 37, 38, 39, 40, 41, 42, 43, 44, 45, 46, 47, 48, 49, 50, 51, 52, 53, 54, 55, 56, 57, 58, 59, 60, 61, 62, 63, 64, 65, 66, 67, 68, 69, 70, 71, 72, 73, 74, 75, 76, 77, 78, 79, 80, 81, 82, 83, 84, 85, 86, 87, 88, 89, 90, 91, 92, 93, 94, 95, 96, 97, 98, 99, 100, 101, 102, 103, 104] rfl (by decide +kernel)
set_option maxRecDepth 20000 in
theorem gX7_feed_X7_put : GoodIn wsX7_feed (wsV RX7 295 RX7 yX7_put wsX7_put) := goodIn_app (goodIn_of _ (by decide +kernel)) ggX7_feed_X7_put
theorem dX7_feed_0 : decode cX7_feed 0 = .ok (.aload_n 0, 1) := by decide +kernel
theorem dX7_feed_1 : decode cX7_feed 1 = .ok (.getfield 13, 3) := by decide +kernel
theorem dX7_feed_4 : decode cX7_feed 4 = .ok (.bipush 20, 2) := by decide +kernel
theorem dX7_feed_6 : decode cX7_feed 6 = .ok (.iadd, 1) := by decide +kernel
theorem dX7_feed_7 : decode cX7_feed 7 = .ok (.sipush 1600, 3) := by decide +kernel
theorem dX7_feed_10 : decode cX7_feed 10 = .ok (.if_icmp .le 9, 3) := by decide +kernel
theorem dX7_feed_13 : decode cX7_feed 13 = .ok (.aload_n 0, 1) := by decide +kernel
theorem dX7_feed_14 : decode cX7_feed 14 = .ok (.iconst 0, 1) := by decide +kernel
theorem dX7_feed_15 : decode cX7_feed 15 = .ok (.invokevirtual 291, 3) := by decide +kernel
theorem dX7_feed_18 : decode cX7_feed 18 = .ok (.ireturn, 1) := by decide +kernel
theorem dX7_feed_19 : decode cX7_feed 19 = .ok (.aload_n 0, 1) := by decide +kernel
theorem dX7_feed_20 : decode cX7_feed 20 = .ok (.iload_n 1, 1) := by decide +kernel
theorem dX7_feed_21 : decode cX7_feed 21 = .ok (.invokevirtual 295, 3) := by decide +kernel
theorem dX7_feed_24 : decode cX7_feed 24 = .ok (.aload_n 0, 1) := by decide +kernel
theorem dX7_feed_25 : decode cX7_feed 25 = .ok (.iload_n 2, 1) := by decide +kernel
theorem dX7_feed_26 : decode cX7_feed 26 = .ok (.invokevirtual 295, 3) := by decide +kernel
theorem dX7_feed_29 : decode cX7_feed 29 = .ok (.aload_n 0, 1) := by decide +kernel
theorem dX7_feed_30 : decode cX7_feed 30 = .ok (.iload_n 3, 1) := by decide +kernel
theorem dX7_feed_31 : decode cX7_feed 31 = .ok (.invokevirtual 295, 3) := by decide +kernel
theorem dX7_feed_34 : decode cX7_feed 34 = .ok (.aload_n 0, 1) := by decide +kernel
theorem dX7_feed_35 : decode cX7_feed 35 = .ok (.iload 4, 2) := by decide +kernel
theorem dX7_feed_37 : decode cX7_feed 37 = .ok (.invokevirtual 295, 3) := by decide +kernel
theorem dX7_feed_40 : decode cX7_feed 40 = .ok (.aload_n 0, 1) := by decide +kernel
theorem dX7_feed_41 : decode cX7_feed 41 = .ok (.iload 5, 2) := by decide +kernel
theorem dX7_feed_43 : decode cX7_feed 43 = .ok (.invokevirtual 295, 3) := by decide +kernel
theorem dX7_feed_46 : decode cX7_feed 46 = .ok (.aload_n 0, 1) := by decide +kernel
theorem dX7_feed_47 : decode cX7_feed 47 = .ok (.getfield 13, 3) := by decide +kernel
theorem dX7_feed_50 : decode cX7_feed 50 = .ok (.ireturn, 1) := by decide +kernel
set_option maxRecDepth 20000 in
theorem ggX7_end_X7_refuses : GoodIn wsX7_end wsX7_refuses := goodIn_r _ [6, 7, 8, 9, 10, 11, 12, 13, 14, 15, 16, 17, 18, 19, 20, 21, 22, 23, 24, 25, 26, 27, 28, 29, 30, 31, 32, 33, 34, 35, 36, 37, 38, 39, 40, 41, 42, 43, 44, 45, 46, 47, 48, 49, 50, 51, 52, 53, 54, 55, 56, 57, 58, 59, 60, 61, 62, 63, 64, 65, 66, 67, 68, 69, 70, 71, 72, 73, 74, 75, 76, 77, 78, 79, 80, 81, 82, 83, 84, 85, 86, 87, 88, 89, 90, 91, 92, 93, 94, 95, 96, 97, 98, 99] rfl (by decide +kernel)
set_option maxRecDepth 20000 in
theorem gX7_end_X7_refuses : GoodIn wsX7_end (wsV RX7 291 RX7 yX7_refuses wsX7_refuses) := goodIn_app (goodIn_of _ (by decide +kernel)) ggX7_end_X7_refuses
theorem dX7_end_0 : decode cX7_end 0 = .ok (.iload_n 1, 1) := by decide +kernel
theorem dX7_end_1 : decode cX7_end 1 = .ok (.ifCond .lt 11, 3) := by decide +kernel
theorem dX7_end_4 : decode cX7_end 4 = .ok (.iload_n 1, 1) := by decide +kernel
theorem dX7_end_5 : decode cX7_end 5 = .ok (.aload_n 0, 1) := by decide +kernel
theorem dX7_end_6 : decode cX7_end 6 = .ok (.getfield 13, 3) := by decide +kernel
theorem dX7_end_9 : decode cX7_end 9 = .ok (.if_icmp .le 17, 3) := by decide +kernel
theorem dX7_end_12 : decode cX7_end 12 = .ok (.aload_n 0, 1) := by decide +kernel
theorem dX7_end_13 : decode cX7_end 13 = .ok (.iconst 0, 1) := by decide +kernel
theorem dX7_end_14 : decode cX7_end 14 = .ok (.invokevirtual 291, 3) := by decide +kernel
theorem dX7_end_17 : decode cX7_end 17 = .ok (.ifCond .lt 7, 3) := by decide +kernel
theorem dX7_end_20 : decode cX7_end 20 = .ok (.iconst 1, 1) := by decide +kernel
theorem dX7_end_21 : decode cX7_end 21 = .ok (.goto 4, 3) := by decide +kernel
theorem dX7_end_24 : decode cX7_end 24 = .ok (.iconst 0, 1) := by decide +kernel
theorem dX7_end_25 : decode cX7_end 25 = .ok (.ireturn, 1) := by decide +kernel
theorem dX7_end_26 : decode cX7_end 26 = .ok (.aload_n 0, 1) := by decide +kernel
theorem dX7_end_27 : decode cX7_end 27 = .ok (.iload_n 1, 1) := by decide +kernel
theorem dX7_end_28 : decode cX7_end 28 = .ok (.putfield 13, 3) := by decide +kernel
theorem dX7_end_31 : decode cX7_end 31 = .ok (.iconst 1, 1) := by decide +kernel
theorem dX7_end_32 : decode cX7_end 32 = .ok (.ireturn, 1) := by decide +kernel
theorem dX7_blame_0 : decode cX7_blame 0 = .ok (.aload_n 0, 1) := by decide +kernel
theorem dX7_blame_1 : decode cX7_blame 1 = .ok (.getfield 36, 3) := by decide +kernel
theorem dX7_blame_4 : decode cX7_blame 4 = .ok (.ifCond .le 4, 3) := by decide +kernel
theorem dX7_blame_7 : decode cX7_blame 7 = .ok (.return_, 1) := by decide +kernel
theorem dX7_blame_8 : decode cX7_blame 8 = .ok (.aload_n 0, 1) := by decide +kernel
theorem dX7_blame_9 : decode cX7_blame 9 = .ok (.iload_n 1, 1) := by decide +kernel
theorem dX7_blame_10 : decode cX7_blame 10 = .ok (.putfield 36, 3) := by decide +kernel
theorem dX7_blame_13 : decode cX7_blame 13 = .ok (.aload_n 0, 1) := by decide +kernel
theorem dX7_blame_14 : decode cX7_blame 14 = .ok (.iload_n 2, 1) := by decide +kernel
theorem dX7_blame_15 : decode cX7_blame 15 = .ok (.putfield 39, 3) := by decide +kernel
theorem dX7_blame_18 : decode cX7_blame 18 = .ok (.return_, 1) := by decide +kernel
theorem dX7_isLetter_0 : decode cX7_isLetter 0 = .ok (.iload_n 0, 1) := by decide +kernel
theorem dX7_isLetter_1 : decode cX7_isLetter 1 = .ok (.bipush 97, 2) := by decide +kernel
theorem dX7_isLetter_3 : decode cX7_isLetter 3 = .ok (.if_icmp .lt 13, 3) := by decide +kernel
theorem dX7_isLetter_6 : decode cX7_isLetter 6 = .ok (.iload_n 0, 1) := by decide +kernel
theorem dX7_isLetter_7 : decode cX7_isLetter 7 = .ok (.bipush 122, 2) := by decide +kernel
theorem dX7_isLetter_9 : decode cX7_isLetter 9 = .ok (.if_icmp .gt 7, 3) := by decide +kernel
theorem dX7_isLetter_12 : decode cX7_isLetter 12 = .ok (.iconst 1, 1) := by decide +kernel
theorem dX7_isLetter_13 : decode cX7_isLetter 13 = .ok (.goto 4, 3) := by decide +kernel
theorem dX7_isLetter_16 : decode cX7_isLetter 16 = .ok (.iconst 0, 1) := by decide +kernel
theorem dX7_isLetter_17 : decode cX7_isLetter 17 = .ok (.ireturn, 1) := by decide +kernel
theorem dX7_isDigit_0 : decode cX7_isDigit 0 = .ok (.iload_n 0, 1) := by decide +kernel
theorem dX7_isDigit_1 : decode cX7_isDigit 1 = .ok (.bipush 48, 2) := by decide +kernel
theorem dX7_isDigit_3 : decode cX7_isDigit 3 = .ok (.if_icmp .lt 13, 3) := by decide +kernel
theorem dX7_isDigit_6 : decode cX7_isDigit 6 = .ok (.iload_n 0, 1) := by decide +kernel
theorem dX7_isDigit_7 : decode cX7_isDigit 7 = .ok (.bipush 57, 2) := by decide +kernel
theorem dX7_isDigit_9 : decode cX7_isDigit 9 = .ok (.if_icmp .gt 7, 3) := by decide +kernel
theorem dX7_isDigit_12 : decode cX7_isDigit 12 = .ok (.iconst 1, 1) := by decide +kernel
theorem dX7_isDigit_13 : decode cX7_isDigit 13 = .ok (.goto 4, 3) := by decide +kernel
theorem dX7_isDigit_16 : decode cX7_isDigit 16 = .ok (.iconst 0, 1) := by decide +kernel
theorem dX7_isDigit_17 : decode cX7_isDigit 17 = .ok (.ireturn, 1) := by decide +kernel
set_option maxRecDepth 20000 in
theorem ggX7_lex_X7_blame : GoodIn wsX7_lex wsX7_blame := goodIn_r _ [6, 7, 8, 9, 10, 11, 12, 13, 14, 15, 16, 17, 18, 19, 20, 21, 22, 23, 24, 25, 26, 27, 28, 29, 30, 31, 32, 33, 34, 35, 36, 37, 38, 39, 40, 41, 42, 43, 44, 45, 46, 47, 48, 49, 50, 51, 52, 53, 54, 55, 56, 57, 58, 59, 60, 61, 62, 63, 64, 65, 66, 67, 68, 69, 70, 71, 72, 73, 74, 75, 76, 77, 78, 79, 80, 81, 82, 83, 84, 85, 86, 87, 88, 89, 90, 91, 92, 93, 94, 95, 96, 97, 98, 99, 100] rfl (by decide +kernel)
set_option maxRecDepth 20000 in
theorem gX7_lex_X7_blame : GoodIn wsX7_lex (wsV RX7 299 RX7 yX7_blame wsX7_blame) := goodIn_app (goodIn_of _ (by decide +kernel)) ggX7_lex_X7_blame
theorem dX7_lex_0 : decode cX7_lex 0 = .ok (.aload_n 0, 1) := by decide +kernel
theorem dX7_lex_1 : decode cX7_lex 1 = .ok (.getfield 48, 3) := by decide +kernel
theorem dX7_lex_4 : decode cX7_lex 4 = .ok (.iconst (-1), 1) := by decide +kernel
theorem dX7_lex_5 : decode cX7_lex 5 = .ok (.if_icmp .eq 12, 3) := by decide +kernel
theorem dX7_lex_8 : decode cX7_lex 8 = .ok (.aload_n 0, 1) := by decide +kernel
theorem dX7_lex_9 : decode cX7_lex 9 = .ok (.iconst 1, 1) := by decide +kernel
theorem dX7_lex_10 : decode cX7_lex 10 = .ok (.aload_n 0, 1) := by decide +kernel
theorem dX7_lex_11 : decode cX7_lex 11 = .ok (.getfield 48, 3) := by decide +kernel
theorem dX7_lex_14 : decode cX7_lex 14 = .ok (.invokevirtual 299, 3) := by decide +kernel
theorem dX7_lex_17 : decode cX7_lex 17 = .ok (.return_, 1) := by decide +kernel
set_option maxRecDepth 20000 in
theorem ggX7_ahead_X7_isLetter : GoodIn wsX7_ahead wsX7_isLetter := goodIn_r _ [12] rfl (by decide +kernel)
set_option maxRecDepth 20000 in
theorem gX7_ahead_X7_isLetter : GoodIn wsX7_ahead (va_wsS RX7 303 yX7_isLetter wsX7_isLetter) := goodIn_app (goodIn_of _ (by decide +kernel)) ggX7_ahead_X7_isLetter
set_option maxRecDepth 20000 in
theorem ggX7_ahead_X7_isDigit : GoodIn wsX7_ahead wsX7_isDigit := goodIn_r _ [15] rfl (by decide +kernel)
set_option maxRecDepth 20000 in
theorem gX7_ahead_X7_isDigit : GoodIn wsX7_ahead (va_wsS RX7 307 yX7_isDigit wsX7_isDigit) := goodIn_app (goodIn_of _ (by decide +kernel)) ggX7_ahead_X7_isDigit
set_option maxRecDepth 20000 in
theorem ggX7_ahead_X7_isOwn : GoodIn wsX7_ahead wsX7_isOwn := goodIn_r _ [19, 20, 21, 22, 23, 24, 25, 26, 27, 28, 29, 30, 31, 32, 33, 34, 35, 36, 37, 38, 39, 40, 41, 42, 43, 44] rfl (by decide +kernel)
set_option maxRecDepth 20000 in
theorem gX7_ahead_X7_isOwn : GoodIn wsX7_ahead (wsV RX7 310 RX7 yX7_isOwn wsX7_isOwn) := goodIn_app (goodIn_of _ (by decide +kernel)) ggX7_ahead_X7_isOwn
theorem dX7_ahead_0 : decode cX7_ahead 0 = .ok (.aload_n 0, 1) := by decide +kernel
theorem dX7_ahead_1 : decode cX7_ahead 1 = .ok (.getfield 26, 3) := by decide +kernel
theorem dX7_ahead_4 : decode cX7_ahead 4 = .ok (.istore_n 1, 1) := by decide +kernel
theorem dX7_ahead_5 : decode cX7_ahead 5 = .ok (.iload_n 1, 1) := by decide +kernel
theorem dX7_ahead_6 : decode cX7_ahead 6 = .ok (.aload_n 0, 1) := by decide +kernel
theorem dX7_ahead_7 : decode cX7_ahead 7 = .ok (.getfield 17, 3) := by decide +kernel
theorem dX7_ahead_10 : decode cX7_ahead 10 = .ok (.if_icmp .ge 31, 3) := by decide +kernel
theorem dX7_ahead_13 : decode cX7_ahead 13 = .ok (.aload_n 0, 1) := by decide +kernel
theorem dX7_ahead_14 : decode cX7_ahead 14 = .ok (.getfield 7, 3) := by decide +kernel
theorem dX7_ahead_17 : decode cX7_ahead 17 = .ok (.iload_n 1, 1) := by decide +kernel
theorem dX7_ahead_18 : decode cX7_ahead 18 = .ok (.iaload, 1) := by decide +kernel
theorem dX7_ahead_19 : decode cX7_ahead 19 = .ok (.bipush 32, 2) := by decide +kernel
theorem dX7_ahead_21 : decode cX7_ahead 21 = .ok (.if_icmp .eq 14, 3) := by decide +kernel
theorem dX7_ahead_24 : decode cX7_ahead 24 = .ok (.aload_n 0, 1) := by decide +kernel
theorem dX7_ahead_25 : decode cX7_ahead 25 = .ok (.getfield 7, 3) := by decide +kernel
theorem dX7_ahead_28 : decode cX7_ahead 28 = .ok (.iload_n 1, 1) := by decide +kernel
theorem dX7_ahead_29 : decode cX7_ahead 29 = .ok (.iaload, 1) := by decide +kernel
theorem dX7_ahead_30 : decode cX7_ahead 30 = .ok (.bipush 10, 2) := by decide +kernel
theorem dX7_ahead_32 : decode cX7_ahead 32 = .ok (.if_icmp .ne 9, 3) := by decide +kernel
theorem dX7_ahead_35 : decode cX7_ahead 35 = .ok (.iinc 1 1, 3) := by decide +kernel
theorem dX7_ahead_38 : decode cX7_ahead 38 = .ok (.goto (-33), 3) := by decide +kernel
theorem dX7_ahead_41 : decode cX7_ahead 41 = .ok (.aload_n 0, 1) := by decide +kernel
theorem dX7_ahead_42 : decode cX7_ahead 42 = .ok (.iload_n 1, 1) := by decide +kernel
theorem dX7_ahead_43 : decode cX7_ahead 43 = .ok (.putfield 23, 3) := by decide +kernel
theorem dX7_ahead_46 : decode cX7_ahead 46 = .ok (.aload_n 0, 1) := by decide +kernel
theorem dX7_ahead_47 : decode cX7_ahead 47 = .ok (.iload_n 1, 1) := by decide +kernel
theorem dX7_ahead_48 : decode cX7_ahead 48 = .ok (.putfield 26, 3) := by decide +kernel
theorem dX7_ahead_51 : decode cX7_ahead 51 = .ok (.aload_n 0, 1) := by decide +kernel
theorem dX7_ahead_52 : decode cX7_ahead 52 = .ok (.iconst 0, 1) := by decide +kernel
theorem dX7_ahead_53 : decode cX7_ahead 53 = .ok (.putfield 20, 3) := by decide +kernel
theorem dX7_ahead_56 : decode cX7_ahead 56 = .ok (.aload_n 0, 1) := by decide +kernel
theorem dX7_ahead_57 : decode cX7_ahead 57 = .ok (.iconst (-1), 1) := by decide +kernel
theorem dX7_ahead_58 : decode cX7_ahead 58 = .ok (.putfield 48, 3) := by decide +kernel
theorem dX7_ahead_61 : decode cX7_ahead 61 = .ok (.iload_n 1, 1) := by decide +kernel
theorem dX7_ahead_62 : decode cX7_ahead 62 = .ok (.aload_n 0, 1) := by decide +kernel
theorem dX7_ahead_63 : decode cX7_ahead 63 = .ok (.getfield 17, 3) := by decide +kernel
theorem dX7_ahead_66 : decode cX7_ahead 66 = .ok (.if_icmp .lt 4, 3) := by decide +kernel
theorem dX7_ahead_69 : decode cX7_ahead 69 = .ok (.return_, 1) := by decide +kernel
theorem dX7_ahead_70 : decode cX7_ahead 70 = .ok (.aload_n 0, 1) := by decide +kernel
theorem dX7_ahead_71 : decode cX7_ahead 71 = .ok (.getfield 7, 3) := by decide +kernel
theorem dX7_ahead_74 : decode cX7_ahead 74 = .ok (.iload_n 1, 1) := by decide +kernel
theorem dX7_ahead_75 : decode cX7_ahead 75 = .ok (.iaload, 1) := by decide +kernel
theorem dX7_ahead_76 : decode cX7_ahead 76 = .ok (.invokestatic 303, 3) := by decide +kernel
theorem dX7_ahead_79 : decode cX7_ahead 79 = .ok (.istore_n 2, 1) := by decide +kernel
theorem dX7_ahead_80 : decode cX7_ahead 80 = .ok (.aload_n 0, 1) := by decide +kernel
theorem dX7_ahead_81 : decode cX7_ahead 81 = .ok (.getfield 7, 3) := by decide +kernel
theorem dX7_ahead_84 : decode cX7_ahead 84 = .ok (.iload_n 1, 1) := by decide +kernel
theorem dX7_ahead_85 : decode cX7_ahead 85 = .ok (.iaload, 1) := by decide +kernel
theorem dX7_ahead_86 : decode cX7_ahead 86 = .ok (.invokestatic 307, 3) := by decide +kernel
theorem dX7_ahead_89 : decode cX7_ahead 89 = .ok (.istore_n 3, 1) := by decide +kernel
theorem dX7_ahead_90 : decode cX7_ahead 90 = .ok (.iload_n 2, 1) := by decide +kernel
theorem dX7_ahead_91 : decode cX7_ahead 91 = .ok (.ifCond .ne 7, 3) := by decide +kernel
theorem dX7_ahead_94 : decode cX7_ahead 94 = .ok (.iload_n 3, 1) := by decide +kernel
theorem dX7_ahead_95 : decode cX7_ahead 95 = .ok (.ifCond .eq 40, 3) := by decide +kernel
theorem dX7_ahead_98 : decode cX7_ahead 98 = .ok (.iload_n 1, 1) := by decide +kernel
theorem dX7_ahead_99 : decode cX7_ahead 99 = .ok (.ifCond .le 36, 3) := by decide +kernel
theorem dX7_ahead_102 : decode cX7_ahead 102 = .ok (.aload_n 0, 1) := by decide +kernel
theorem dX7_ahead_103 : decode cX7_ahead 103 = .ok (.getfield 7, 3) := by decide +kernel
theorem dX7_ahead_106 : decode cX7_ahead 106 = .ok (.iload_n 1, 1) := by decide +kernel
theorem dX7_ahead_107 : decode cX7_ahead 107 = .ok (.iconst 1, 1) := by decide +kernel
theorem dX7_ahead_108 : decode cX7_ahead 108 = .ok (.isub, 1) := by decide +kernel
theorem dX7_ahead_109 : decode cX7_ahead 109 = .ok (.iaload, 1) := by decide +kernel
theorem dX7_ahead_110 : decode cX7_ahead 110 = .ok (.invokestatic 303, 3) := by decide +kernel
theorem dX7_ahead_113 : decode cX7_ahead 113 = .ok (.ifCond .ne 17, 3) := by decide +kernel
theorem dX7_ahead_116 : decode cX7_ahead 116 = .ok (.aload_n 0, 1) := by decide +kernel
theorem dX7_ahead_117 : decode cX7_ahead 117 = .ok (.getfield 7, 3) := by decide +kernel
theorem dX7_ahead_120 : decode cX7_ahead 120 = .ok (.iload_n 1, 1) := by decide +kernel
theorem dX7_ahead_121 : decode cX7_ahead 121 = .ok (.iconst 1, 1) := by decide +kernel
theorem dX7_ahead_122 : decode cX7_ahead 122 = .ok (.isub, 1) := by decide +kernel
theorem dX7_ahead_123 : decode cX7_ahead 123 = .ok (.iaload, 1) := by decide +kernel
theorem dX7_ahead_124 : decode cX7_ahead 124 = .ok (.invokestatic 307, 3) := by decide +kernel
theorem dX7_ahead_127 : decode cX7_ahead 127 = .ok (.ifCond .eq 8, 3) := by decide +kernel
theorem dX7_ahead_130 : decode cX7_ahead 130 = .ok (.aload_n 0, 1) := by decide +kernel
theorem dX7_ahead_131 : decode cX7_ahead 131 = .ok (.iload_n 1, 1) := by decide +kernel
theorem dX7_ahead_132 : decode cX7_ahead 132 = .ok (.putfield 48, 3) := by decide +kernel
theorem dX7_ahead_135 : decode cX7_ahead 135 = .ok (.aload_n 0, 1) := by decide +kernel
theorem dX7_ahead_136 : decode cX7_ahead 136 = .ok (.iconst 0, 1) := by decide +kernel
theorem dX7_ahead_137 : decode cX7_ahead 137 = .ok (.putfield 29, 3) := by decide +kernel
theorem dX7_ahead_140 : decode cX7_ahead 140 = .ok (.aload_n 0, 1) := by decide +kernel
theorem dX7_ahead_141 : decode cX7_ahead 141 = .ok (.lconst 0, 1) := by decide +kernel
theorem dX7_ahead_142 : decode cX7_ahead 142 = .ok (.putfield 32, 3) := by decide +kernel
theorem dX7_ahead_145 : decode cX7_ahead 145 = .ok (.aload_n 0, 1) := by decide +kernel
theorem dX7_ahead_146 : decode cX7_ahead 146 = .ok (.iconst 3, 1) := by decide +kernel
theorem dX7_ahead_147 : decode cX7_ahead 147 = .ok (.putfield 20, 3) := by decide +kernel
theorem dX7_ahead_150 : decode cX7_ahead 150 = .ok (.aload_n 0, 1) := by decide +kernel
theorem dX7_ahead_151 : decode cX7_ahead 151 = .ok (.iload_n 1, 1) := by decide +kernel
theorem dX7_ahead_152 : decode cX7_ahead 152 = .ok (.iconst 1, 1) := by decide +kernel
theorem dX7_ahead_153 : decode cX7_ahead 153 = .ok (.iadd, 1) := by decide +kernel
theorem dX7_ahead_154 : decode cX7_ahead 154 = .ok (.putfield 26, 3) := by decide +kernel
theorem dX7_ahead_157 : decode cX7_ahead 157 = .ok (.iload_n 2, 1) := by decide +kernel
theorem dX7_ahead_158 : decode cX7_ahead 158 = .ok (.ifCond .ne 18, 3) := by decide +kernel
theorem dX7_ahead_161 : decode cX7_ahead 161 = .ok (.iload_n 3, 1) := by decide +kernel
theorem dX7_ahead_162 : decode cX7_ahead 162 = .ok (.ifCond .ne 14, 3) := by decide +kernel
theorem dX7_ahead_165 : decode cX7_ahead 165 = .ok (.aload_n 0, 1) := by decide +kernel
theorem dX7_ahead_166 : decode cX7_ahead 166 = .ok (.aload_n 0, 1) := by decide +kernel
theorem dX7_ahead_167 : decode cX7_ahead 167 = .ok (.getfield 7, 3) := by decide +kernel
theorem dX7_ahead_170 : decode cX7_ahead 170 = .ok (.iload_n 1, 1) := by decide +kernel
theorem dX7_ahead_171 : decode cX7_ahead 171 = .ok (.iaload, 1) := by decide +kernel
theorem dX7_ahead_172 : decode cX7_ahead 172 = .ok (.putfield 29, 3) := by decide +kernel
theorem dX7_ahead_175 : decode cX7_ahead 175 = .ok (.return_, 1) := by decide +kernel
theorem dX7_ahead_176 : decode cX7_ahead 176 = .ok (.aload_n 0, 1) := by decide +kernel
theorem dX7_ahead_177 : decode cX7_ahead 177 = .ok (.iload_n 2, 1) := by decide +kernel
theorem dX7_ahead_178 : decode cX7_ahead 178 = .ok (.ifCond .eq 7, 3) := by decide +kernel
theorem dX7_ahead_181 : decode cX7_ahead 181 = .ok (.iconst 1, 1) := by decide +kernel
theorem dX7_ahead_182 : decode cX7_ahead 182 = .ok (.goto 4, 3) := by decide +kernel
theorem dX7_ahead_185 : decode cX7_ahead 185 = .ok (.iconst 2, 1) := by decide +kernel
theorem dX7_ahead_186 : decode cX7_ahead 186 = .ok (.putfield 20, 3) := by decide +kernel
theorem dX7_ahead_189 : decode cX7_ahead 189 = .ok (.iload_n 2, 1) := by decide +kernel
theorem dX7_ahead_190 : decode cX7_ahead 190 = .ok (.ifCond .eq 8, 3) := by decide +kernel
theorem dX7_ahead_193 : decode cX7_ahead 193 = .ok (.bipush 6, 2) := by decide +kernel
theorem dX7_ahead_195 : decode cX7_ahead 195 = .ok (.goto 4, 3) := by decide +kernel
theorem dX7_ahead_198 : decode cX7_ahead 198 = .ok (.iconst 4, 1) := by decide +kernel
theorem dX7_ahead_199 : decode cX7_ahead 199 = .ok (.istore 4, 2) := by decide +kernel
theorem dX7_ahead_201 : decode cX7_ahead 201 = .ok (.iconst 0, 1) := by decide +kernel
theorem dX7_ahead_202 : decode cX7_ahead 202 = .ok (.istore 5, 2) := by decide +kernel
theorem dX7_ahead_204 : decode cX7_ahead 204 = .ok (.iload_n 1, 1) := by decide +kernel
theorem dX7_ahead_205 : decode cX7_ahead 205 = .ok (.aload_n 0, 1) := by decide +kernel
theorem dX7_ahead_206 : decode cX7_ahead 206 = .ok (.getfield 17, 3) := by decide +kernel
theorem dX7_ahead_209 : decode cX7_ahead 209 = .ok (.if_icmp .ge 125, 3) := by decide +kernel
theorem dX7_ahead_212 : decode cX7_ahead 212 = .ok (.iload_n 2, 1) := by decide +kernel
theorem dX7_ahead_213 : decode cX7_ahead 213 = .ok (.ifCond .eq 18, 3) := by decide +kernel
theorem dX7_ahead_216 : decode cX7_ahead 216 = .ok (.aload_n 0, 1) := by decide +kernel
theorem dX7_ahead_217 : decode cX7_ahead 217 = .ok (.getfield 7, 3) := by decide +kernel
theorem dX7_ahead_220 : decode cX7_ahead 220 = .ok (.iload_n 1, 1) := by decide +kernel
theorem dX7_ahead_221 : decode cX7_ahead 221 = .ok (.iaload, 1) := by decide +kernel
theorem dX7_ahead_222 : decode cX7_ahead 222 = .ok (.invokestatic 303, 3) := by decide +kernel
theorem dX7_ahead_225 : decode cX7_ahead 225 = .ok (.ifCond .eq 109, 3) := by decide +kernel
theorem dX7_ahead_228 : decode cX7_ahead 228 = .ok (.goto 15, 3) := by decide +kernel
theorem dX7_ahead_231 : decode cX7_ahead 231 = .ok (.aload_n 0, 1) := by decide +kernel
theorem dX7_ahead_232 : decode cX7_ahead 232 = .ok (.getfield 7, 3) := by decide +kernel
theorem dX7_ahead_235 : decode cX7_ahead 235 = .ok (.iload_n 1, 1) := by decide +kernel
theorem dX7_ahead_236 : decode cX7_ahead 236 = .ok (.iaload, 1) := by decide +kernel
theorem dX7_ahead_237 : decode cX7_ahead 237 = .ok (.invokestatic 307, 3) := by decide +kernel
theorem dX7_ahead_240 : decode cX7_ahead 240 = .ok (.ifCond .eq 94, 3) := by decide +kernel
theorem dX7_ahead_243 : decode cX7_ahead 243 = .ok (.iload 5, 2) := by decide +kernel
theorem dX7_ahead_245 : decode cX7_ahead 245 = .ok (.iload 4, 2) := by decide +kernel
theorem dX7_ahead_247 : decode cX7_ahead 247 = .ok (.if_icmp .ne 16, 3) := by decide +kernel
theorem dX7_ahead_250 : decode cX7_ahead 250 = .ok (.aload_n 0, 1) := by decide +kernel
theorem dX7_ahead_251 : decode cX7_ahead 251 = .ok (.getfield 48, 3) := by decide +kernel
theorem dX7_ahead_254 : decode cX7_ahead 254 = .ok (.iconst (-1), 1) := by decide +kernel
theorem dX7_ahead_255 : decode cX7_ahead 255 = .ok (.if_icmp .ne 8, 3) := by decide +kernel
theorem dX7_ahead_258 : decode cX7_ahead 258 = .ok (.aload_n 0, 1) := by decide +kernel
theorem dX7_ahead_259 : decode cX7_ahead 259 = .ok (.iload_n 1, 1) := by decide +kernel
theorem dX7_ahead_260 : decode cX7_ahead 260 = .ok (.putfield 48, 3) := by decide +kernel
theorem dX7_ahead_263 : decode cX7_ahead 263 = .ok (.iload 5, 2) := by decide +kernel
theorem dX7_ahead_265 : decode cX7_ahead 265 = .ok (.bipush 8, 2) := by decide +kernel
theorem dX7_ahead_267 : decode cX7_ahead 267 = .ok (.if_icmp .ge 26, 3) := by decide +kernel
theorem dX7_ahead_270 : decode cX7_ahead 270 = .ok (.iload_n 2, 1) := by decide +kernel
theorem dX7_ahead_271 : decode cX7_ahead 271 = .ok (.ifCond .eq 22, 3) := by decide +kernel
theorem dX7_ahead_274 : decode cX7_ahead 274 = .ok (.aload_n 0, 1) := by decide +kernel
theorem dX7_ahead_275 : decode cX7_ahead 275 = .ok (.aload_n 0, 1) := by decide +kernel
theorem dX7_ahead_276 : decode cX7_ahead 276 = .ok (.getfield 32, 3) := by decide +kernel
theorem dX7_ahead_279 : decode cX7_ahead 279 = .ok (.bipush 8, 2) := by decide +kernel
theorem dX7_ahead_281 : decode cX7_ahead 281 = .ok (.lshl, 1) := by decide +kernel
theorem dX7_ahead_282 : decode cX7_ahead 282 = .ok (.aload_n 0, 1) := by decide +kernel
theorem dX7_ahead_283 : decode cX7_ahead 283 = .ok (.getfield 7, 3) := by decide +kernel
theorem dX7_ahead_286 : decode cX7_ahead 286 = .ok (.iload_n 1, 1) := by decide +kernel
theorem dX7_ahead_287 : decode cX7_ahead 287 = .ok (.iaload, 1) := by decide +kernel
theorem dX7_ahead_288 : decode cX7_ahead 288 = .ok (.i2l, 1) := by decide +kernel
theorem dX7_ahead_289 : decode cX7_ahead 289 = .ok (.lor, 1) := by decide +kernel
theorem dX7_ahead_290 : decode cX7_ahead 290 = .ok (.putfield 32, 3) := by decide +kernel
theorem dX7_ahead_293 : decode cX7_ahead 293 = .ok (.iload 5, 2) := by decide +kernel
theorem dX7_ahead_295 : decode cX7_ahead 295 = .ok (.iload 4, 2) := by decide +kernel
theorem dX7_ahead_297 : decode cX7_ahead 297 = .ok (.if_icmp .ge 28, 3) := by decide +kernel
theorem dX7_ahead_300 : decode cX7_ahead 300 = .ok (.iload_n 3, 1) := by decide +kernel
theorem dX7_ahead_301 : decode cX7_ahead 301 = .ok (.ifCond .eq 24, 3) := by decide +kernel
theorem dX7_ahead_304 : decode cX7_ahead 304 = .ok (.aload_n 0, 1) := by decide +kernel
theorem dX7_ahead_305 : decode cX7_ahead 305 = .ok (.bipush 10, 2) := by decide +kernel
theorem dX7_ahead_307 : decode cX7_ahead 307 = .ok (.aload_n 0, 1) := by decide +kernel
theorem dX7_ahead_308 : decode cX7_ahead 308 = .ok (.getfield 29, 3) := by decide +kernel
theorem dX7_ahead_311 : decode cX7_ahead 311 = .ok (.imul, 1) := by decide +kernel
theorem dX7_ahead_312 : decode cX7_ahead 312 = .ok (.aload_n 0, 1) := by decide +kernel
theorem dX7_ahead_313 : decode cX7_ahead 313 = .ok (.getfield 7, 3) := by decide +kernel
theorem dX7_ahead_316 : decode cX7_ahead 316 = .ok (.iload_n 1, 1) := by decide +kernel
theorem dX7_ahead_317 : decode cX7_ahead 317 = .ok (.iaload, 1) := by decide +kernel
theorem dX7_ahead_318 : decode cX7_ahead 318 = .ok (.iadd, 1) := by decide +kernel
theorem dX7_ahead_319 : decode cX7_ahead 319 = .ok (.bipush 48, 2) := by decide +kernel
theorem dX7_ahead_321 : decode cX7_ahead 321 = .ok (.isub, 1) := by decide +kernel
theorem dX7_ahead_322 : decode cX7_ahead 322 = .ok (.putfield 29, 3) := by decide +kernel
theorem dX7_ahead_325 : decode cX7_ahead 325 = .ok (.iinc 5 1, 3) := by decide +kernel
theorem dX7_ahead_328 : decode cX7_ahead 328 = .ok (.iinc 1 1, 3) := by decide +kernel
theorem dX7_ahead_331 : decode cX7_ahead 331 = .ok (.goto (-127), 3) := by decide +kernel
theorem dX7_ahead_334 : decode cX7_ahead 334 = .ok (.aload_n 0, 1) := by decide +kernel
theorem dX7_ahead_335 : decode cX7_ahead 335 = .ok (.iload_n 1, 1) := by decide +kernel
theorem dX7_ahead_336 : decode cX7_ahead 336 = .ok (.putfield 26, 3) := by decide +kernel
theorem dX7_ahead_339 : decode cX7_ahead 339 = .ok (.iload_n 2, 1) := by decide +kernel
theorem dX7_ahead_340 : decode cX7_ahead 340 = .ok (.ifCond .eq 40, 3) := by decide +kernel
theorem dX7_ahead_343 : decode cX7_ahead 343 = .ok (.iload 5, 2) := by decide +kernel
theorem dX7_ahead_345 : decode cX7_ahead 345 = .ok (.bipush 8, 2) := by decide +kernel
theorem dX7_ahead_347 : decode cX7_ahead 347 = .ok (.if_icmp .gt 33, 3) := by decide +kernel
theorem dX7_ahead_350 : decode cX7_ahead 350 = .ok (.aload_n 0, 1) := by decide +kernel
theorem dX7_ahead_351 : decode cX7_ahead 351 = .ok (.getfield 48, 3) := by decide +kernel
theorem dX7_ahead_354 : decode cX7_ahead 354 = .ok (.aload_n 0, 1) := by decide +kernel
theorem dX7_ahead_355 : decode cX7_ahead 355 = .ok (.getfield 23, 3) := by decide +kernel
theorem dX7_ahead_358 : decode cX7_ahead 358 = .ok (.iload 4, 2) := by decide +kernel
theorem dX7_ahead_360 : decode cX7_ahead 360 = .ok (.iadd, 1) := by decide +kernel
theorem dX7_ahead_361 : decode cX7_ahead 361 = .ok (.if_icmp .ne 19, 3) := by decide +kernel
theorem dX7_ahead_364 : decode cX7_ahead 364 = .ok (.aload_n 0, 1) := by decide +kernel
theorem dX7_ahead_365 : decode cX7_ahead 365 = .ok (.aload_n 0, 1) := by decide +kernel
theorem dX7_ahead_366 : decode cX7_ahead 366 = .ok (.getfield 32, 3) := by decide +kernel
theorem dX7_ahead_369 : decode cX7_ahead 369 = .ok (.invokevirtual 310, 3) := by decide +kernel
theorem dX7_ahead_372 : decode cX7_ahead 372 = .ok (.ifCond .eq 8, 3) := by decide +kernel
theorem dX7_ahead_375 : decode cX7_ahead 375 = .ok (.aload_n 0, 1) := by decide +kernel
theorem dX7_ahead_376 : decode cX7_ahead 376 = .ok (.iconst (-1), 1) := by decide +kernel
theorem dX7_ahead_377 : decode cX7_ahead 377 = .ok (.putfield 48, 3) := by decide +kernel
theorem dX7_ahead_380 : decode cX7_ahead 380 = .ok (.return_, 1) := by decide +kernel
theorem dX7_isSign_0 : decode cX7_isSign 0 = .ok (.aload_n 0, 1) := by decide +kernel
theorem dX7_isSign_1 : decode cX7_isSign 1 = .ok (.getfield 20, 3) := by decide +kernel
theorem dX7_isSign_4 : decode cX7_isSign 4 = .ok (.iconst 3, 1) := by decide +kernel
theorem dX7_isSign_5 : decode cX7_isSign 5 = .ok (.if_icmp .ne 15, 3) := by decide +kernel
theorem dX7_isSign_8 : decode cX7_isSign 8 = .ok (.aload_n 0, 1) := by decide +kernel
theorem dX7_isSign_9 : decode cX7_isSign 9 = .ok (.getfield 29, 3) := by decide +kernel
theorem dX7_isSign_12 : decode cX7_isSign 12 = .ok (.iload_n 1, 1) := by decide +kernel
theorem dX7_isSign_13 : decode cX7_isSign 13 = .ok (.if_icmp .ne 7, 3) := by decide +kernel
theorem dX7_isSign_16 : decode cX7_isSign 16 = .ok (.iconst 1, 1) := by decide +kernel
theorem dX7_isSign_17 : decode cX7_isSign 17 = .ok (.goto 4, 3) := by decide +kernel
theorem dX7_isSign_20 : decode cX7_isSign 20 = .ok (.iconst 0, 1) := by decide +kernel
theorem dX7_isSign_21 : decode cX7_isSign 21 = .ok (.ireturn, 1) := by decide +kernel
theorem dX7_isWord_0 : decode cX7_isWord 0 = .ok (.aload_n 0, 1) := by decide +kernel
theorem dX7_isWord_1 : decode cX7_isWord 1 = .ok (.getfield 20, 3) := by decide +kernel
theorem dX7_isWord_4 : decode cX7_isWord 4 = .ok (.iconst 1, 1) := by decide +kernel
theorem dX7_isWord_5 : decode cX7_isWord 5 = .ok (.if_icmp .ne 16, 3) := by decide +kernel
theorem dX7_isWord_8 : decode cX7_isWord 8 = .ok (.aload_n 0, 1) := by decide +kernel
theorem dX7_isWord_9 : decode cX7_isWord 9 = .ok (.getfield 32, 3) := by decide +kernel
theorem dX7_isWord_12 : decode cX7_isWord 12 = .ok (.lload_n 1, 1) := by decide +kernel
theorem dX7_isWord_13 : decode cX7_isWord 13 = .ok (.lcmp, 1) := by decide +kernel
theorem dX7_isWord_14 : decode cX7_isWord 14 = .ok (.ifCond .ne 7, 3) := by decide +kernel
theorem dX7_isWord_17 : decode cX7_isWord 17 = .ok (.iconst 1, 1) := by decide +kernel
theorem dX7_isWord_18 : decode cX7_isWord 18 = .ok (.goto 4, 3) := by decide +kernel
theorem dX7_isWord_21 : decode cX7_isWord 21 = .ok (.iconst 0, 1) := by decide +kernel
theorem dX7_isWord_22 : decode cX7_isWord 22 = .ok (.ireturn, 1) := by decide +kernel
set_option maxRecDepth 20000 in
theorem ggX7_must_X7_lex : GoodIn wsX7_must wsX7_lex := goodIn_r _ [7, 8, 9, 10, 11, 6, 12, 2, 13, 63, 64, 65, 66, 67, 68, 69, 70, 71, 72, 73, 74, 75, 76, 77, 78, 79, 80, 81, 82, 83, 84, 85, 86, 87, 88, 89, 90, 91, 92, 93, 94, 95, 96, 97, 98, 99, 100, 101, 102, 103, 104, 105, 106, 107, 108, 109, 110, 111, 112, 113, 114, 115, 116, 117, 118, 119, 120, 121, 122, 123, 124, 125, 126, 127, 128, 129, 130, 131, 132, 133, 134, 135, 136, 137, 138, 139, 140, 141, 142, 143, 144, 145, 146, 147, 148, 149, 150, 151, 152, 153, 154] rfl (by decide +kernel)
set_option maxRecDepth 20000 in
theorem gX7_must_X7_lex : GoodIn wsX7_must (wsV RX7 314 RX7 yX7_lex wsX7_lex) := goodIn_app (goodIn_of _ (by decide +kernel)) ggX7_must_X7_lex
set_option maxRecDepth 20000 in
theorem ggX7_must_X7_isSign : GoodIn wsX7_must wsX7_isSign := goodIn_r _ [17, 18, 19, 63, 64, 65, 66, 67, 68, 69, 70, 71, 72, 73, 74, 75, 76, 77, 78, 79, 80, 81, 82, 83, 84, 85, 86, 87, 88, 89, 90, 91, 92, 93, 94, 95, 96, 97, 98, 99, 100, 101, 102, 103, 104, 105, 106, 107, 108, 109, 110, 111, 112, 113, 114, 115, 116, 117, 118, 119, 120, 121, 122, 123, 124, 125, 126, 127, 128, 129, 130, 131, 132, 133, 134, 135, 136, 137, 138, 139, 140, 141, 142, 143, 144, 145, 146, 147, 148, 149, 150, 151, 152, 153, 154] rfl (by decide +kernel)
set_option maxRecDepth 20000 in
theorem gX7_must_X7_isSign : GoodIn wsX7_must (wsV RX7 317 RX7 yX7_isSign wsX7_isSign) := goodIn_app (goodIn_of _ (by decide +kernel)) ggX7_must_X7_isSign
set_option maxRecDepth 20000 in
theorem ggX7_must_X7_blame : GoodIn wsX7_must wsX7_blame := goodIn_r _ [12, 2, 13, 63, 64, 65, 66, 67, 68, 69, 70, 71, 72, 73, 74, 75, 76, 77, 78, 79, 80, 81, 82, 83, 84, 85, 86, 87, 88, 89, 90, 91, 92, 93, 94, 95, 96, 97, 98, 99, 100, 101, 102, 103, 104, 105, 106, 107, 108, 109, 110, 111, 112, 113, 114, 115, 116, 117, 118, 119, 120, 121, 122, 123, 124, 125, 126, 127, 128, 129, 130, 131, 132, 133, 134, 135, 136, 137, 138, 139, 140, 141, 142, 143, 144, 145, 146, 147, 148, 149, 150, 151, 152, 153, 154] rfl (by decide +kernel)
set_option maxRecDepth 20000 in
theorem gX7_must_X7_blame : GoodIn wsX7_must (wsV RX7 299 RX7 yX7_blame wsX7_blame) := goodIn_app (goodIn_of _ (by decide +kernel)) ggX7_must_X7_blame
set_option maxRecDepth 20000 in
theorem ggX7_must_X7_ahead : GoodIn wsX7_must wsX7_ahead := goodIn_r _ [23, 24, 25, 26, 1, 18, 8, 19, 27, 28, 29, 6, 30, 31, 32, 33, 34, 35, 36, 37, 38, 39, 40, 41, 42, 43, 44, 45, 46, 47, 48, 49, 50, 51, 52, 53, 54, 55, 56, 57, 58, 59, 60, 61, 62, 63, 64, 65, 66, 67, 68, 69, 70, 71, 72, 73, 74, 75, 76, 77, 78, 79, 80, 81, 82, 83, 84, 85, 86, 87, 88, 89, 90, 91, 92, 93, 94, 95, 96, 97, 98, 99, 100, 101, 102, 103, 104, 105, 106, 107, 108, 109, 110, 111, 112, 113, 114, 115, 116, 117, 118, 119, 120, 121, 122, 123, 124, 125, 126, 127, 128, 129, 130, 131, 132, 133, 134, 135, 136, 137, 138, 139, 140, 141, 142, 143, 144, 145, 146, 147, 148, 149, 150, 151, 152, 153, 154] rfl (by decide +kernel)
set_option maxRecDepth 20000 in
theorem gX7_must_X7_ahead : GoodIn wsX7_must (wsV RX7 320 RX7 yX7_ahead wsX7_ahead) := goodIn_app (goodIn_of _ (by decide +kernel)) ggX7_must_X7_ahead
theorem dX7_must_0 : decode cX7_must 0 = .ok (.aload_n 0, 1) := by decide +kernel
theorem dX7_must_1 : decode cX7_must 1 = .ok (.invokevirtual 314, 3) := by decide +kernel
theorem dX7_must_4 : decode cX7_must 4 = .ok (.aload_n 0, 1) := by decide +kernel
theorem dX7_must_5 : decode cX7_must 5 = .ok (.iload_n 1, 1) := by decide +kernel
theorem dX7_must_6 : decode cX7_must 6 = .ok (.invokevirtual 317, 3) := by decide +kernel
theorem dX7_must_9 : decode cX7_must 9 = .ok (.ifCond .ne 12, 3) := by decide +kernel
theorem dX7_must_12 : decode cX7_must 12 = .ok (.aload_n 0, 1) := by decide +kernel
theorem dX7_must_13 : decode cX7_must 13 = .ok (.iconst 1, 1) := by decide +kernel
theorem dX7_must_14 : decode cX7_must 14 = .ok (.aload_n 0, 1) := by decide +kernel
theorem dX7_must_15 : decode cX7_must 15 = .ok (.getfield 23, 3) := by decide +kernel
theorem dX7_must_18 : decode cX7_must 18 = .ok (.invokevirtual 299, 3) := by decide +kernel
theorem dX7_must_21 : decode cX7_must 21 = .ok (.aload_n 0, 1) := by decide +kernel
theorem dX7_must_22 : decode cX7_must 22 = .ok (.getfield 36, 3) := by decide +kernel
theorem dX7_must_25 : decode cX7_must 25 = .ok (.ifCond .ne 7, 3) := by decide +kernel
theorem dX7_must_28 : decode cX7_must 28 = .ok (.aload_n 0, 1) := by decide +kernel
theorem dX7_must_29 : decode cX7_must 29 = .ok (.invokevirtual 320, 3) := by decide +kernel
theorem dX7_must_32 : decode cX7_must 32 = .ok (.return_, 1) := by decide +kernel
theorem dX7_isOwn_0 : decode cX7_isOwn 0 = .ok (.lload_n 1, 1) := by decide +kernel
theorem dX7_isOwn_1 : decode cX7_isOwn 1 = .ok (.ldc2_w 323, 3) := by decide +kernel
theorem dX7_isOwn_4 : decode cX7_isOwn 4 = .ok (.lcmp, 1) := by decide +kernel
theorem dX7_isOwn_5 : decode cX7_isOwn 5 = .ok (.ifCond .eq 35, 3) := by decide +kernel
theorem dX7_isOwn_8 : decode cX7_isOwn 8 = .ok (.lload_n 1, 1) := by decide +kernel
theorem dX7_isOwn_9 : decode cX7_isOwn 9 = .ok (.ldc2_w 325, 3) := by decide +kernel
theorem dX7_isOwn_12 : decode cX7_isOwn 12 = .ok (.lcmp, 1) := by decide +kernel
theorem dX7_isOwn_13 : decode cX7_isOwn 13 = .ok (.ifCond .eq 27, 3) := by decide +kernel
theorem dX7_isOwn_16 : decode cX7_isOwn 16 = .ok (.lload_n 1, 1) := by decide +kernel
theorem dX7_isOwn_17 : decode cX7_isOwn 17 = .ok (.ldc2_w 327, 3) := by decide +kernel
theorem dX7_isOwn_20 : decode cX7_isOwn 20 = .ok (.lcmp, 1) := by decide +kernel
theorem dX7_isOwn_21 : decode cX7_isOwn 21 = .ok (.ifCond .eq 19, 3) := by decide +kernel
theorem dX7_isOwn_24 : decode cX7_isOwn 24 = .ok (.lload_n 1, 1) := by decide +kernel
theorem dX7_isOwn_25 : decode cX7_isOwn 25 = .ok (.ldc2_w 329, 3) := by decide +kernel
theorem dX7_isOwn_28 : decode cX7_isOwn 28 = .ok (.lcmp, 1) := by decide +kernel
theorem dX7_isOwn_29 : decode cX7_isOwn 29 = .ok (.ifCond .eq 11, 3) := by decide +kernel
theorem dX7_isOwn_32 : decode cX7_isOwn 32 = .ok (.lload_n 1, 1) := by decide +kernel
theorem dX7_isOwn_33 : decode cX7_isOwn 33 = .ok (.ldc2_w 331, 3) := by decide +kernel
theorem dX7_isOwn_36 : decode cX7_isOwn 36 = .ok (.lcmp, 1) := by decide +kernel
theorem dX7_isOwn_37 : decode cX7_isOwn 37 = .ok (.ifCond .ne 5, 3) := by decide +kernel
theorem dX7_isOwn_40 : decode cX7_isOwn 40 = .ok (.iconst 1, 1) := by decide +kernel
theorem dX7_isOwn_41 : decode cX7_isOwn 41 = .ok (.ireturn, 1) := by decide +kernel
theorem dX7_isOwn_42 : decode cX7_isOwn 42 = .ok (.lload_n 1, 1) := by decide +kernel
theorem dX7_isOwn_43 : decode cX7_isOwn 43 = .ok (.ldc2_w 333, 3) := by decide +kernel
theorem dX7_isOwn_46 : decode cX7_isOwn 46 = .ok (.lcmp, 1) := by decide +kernel
theorem dX7_isOwn_47 : decode cX7_isOwn 47 = .ok (.ifCond .eq 35, 3) := by decide +kernel
theorem dX7_isOwn_50 : decode cX7_isOwn 50 = .ok (.lload_n 1, 1) := by decide +kernel
theorem dX7_isOwn_51 : decode cX7_isOwn 51 = .ok (.ldc2_w 335, 3) := by decide +kernel
theorem dX7_isOwn_54 : decode cX7_isOwn 54 = .ok (.lcmp, 1) := by decide +kernel
theorem dX7_isOwn_55 : decode cX7_isOwn 55 = .ok (.ifCond .eq 27, 3) := by decide +kernel
theorem dX7_isOwn_58 : decode cX7_isOwn 58 = .ok (.lload_n 1, 1) := by decide +kernel
theorem dX7_isOwn_59 : decode cX7_isOwn 59 = .ok (.ldc2_w 337, 3) := by decide +kernel
theorem dX7_isOwn_62 : decode cX7_isOwn 62 = .ok (.lcmp, 1) := by decide +kernel
theorem dX7_isOwn_63 : decode cX7_isOwn 63 = .ok (.ifCond .eq 19, 3) := by decide +kernel
theorem dX7_isOwn_66 : decode cX7_isOwn 66 = .ok (.lload_n 1, 1) := by decide +kernel
theorem dX7_isOwn_67 : decode cX7_isOwn 67 = .ok (.ldc2_w 339, 3) := by decide +kernel
theorem dX7_isOwn_70 : decode cX7_isOwn 70 = .ok (.lcmp, 1) := by decide +kernel
theorem dX7_isOwn_71 : decode cX7_isOwn 71 = .ok (.ifCond .eq 11, 3) := by decide +kernel
theorem dX7_isOwn_74 : decode cX7_isOwn 74 = .ok (.lload_n 1, 1) := by decide +kernel
theorem dX7_isOwn_75 : decode cX7_isOwn 75 = .ok (.ldc2_w 341, 3) := by decide +kernel
theorem dX7_isOwn_78 : decode cX7_isOwn 78 = .ok (.lcmp, 1) := by decide +kernel
theorem dX7_isOwn_79 : decode cX7_isOwn 79 = .ok (.ifCond .ne 5, 3) := by decide +kernel
theorem dX7_isOwn_82 : decode cX7_isOwn 82 = .ok (.iconst 1, 1) := by decide +kernel
theorem dX7_isOwn_83 : decode cX7_isOwn 83 = .ok (.ireturn, 1) := by decide +kernel
theorem dX7_isOwn_84 : decode cX7_isOwn 84 = .ok (.lload_n 1, 1) := by decide +kernel
theorem dX7_isOwn_85 : decode cX7_isOwn 85 = .ok (.ldc2_w 343, 3) := by decide +kernel
theorem dX7_isOwn_88 : decode cX7_isOwn 88 = .ok (.lcmp, 1) := by decide +kernel
theorem dX7_isOwn_89 : decode cX7_isOwn 89 = .ok (.ifCond .eq 35, 3) := by decide +kernel
theorem dX7_isOwn_92 : decode cX7_isOwn 92 = .ok (.lload_n 1, 1) := by decide +kernel
theorem dX7_isOwn_93 : decode cX7_isOwn 93 = .ok (.ldc2_w 345, 3) := by decide +kernel
theorem dX7_isOwn_96 : decode cX7_isOwn 96 = .ok (.lcmp, 1) := by decide +kernel
theorem dX7_isOwn_97 : decode cX7_isOwn 97 = .ok (.ifCond .eq 27, 3) := by decide +kernel
theorem dX7_isOwn_100 : decode cX7_isOwn 100 = .ok (.lload_n 1, 1) := by decide +kernel
theorem dX7_isOwn_101 : decode cX7_isOwn 101 = .ok (.ldc2_w 347, 3) := by decide +kernel
theorem dX7_isOwn_104 : decode cX7_isOwn 104 = .ok (.lcmp, 1) := by decide +kernel
theorem dX7_isOwn_105 : decode cX7_isOwn 105 = .ok (.ifCond .eq 19, 3) := by decide +kernel
theorem dX7_isOwn_108 : decode cX7_isOwn 108 = .ok (.lload_n 1, 1) := by decide +kernel
theorem dX7_isOwn_109 : decode cX7_isOwn 109 = .ok (.ldc2_w 349, 3) := by decide +kernel
theorem dX7_isOwn_112 : decode cX7_isOwn 112 = .ok (.lcmp, 1) := by decide +kernel
theorem dX7_isOwn_113 : decode cX7_isOwn 113 = .ok (.ifCond .eq 11, 3) := by decide +kernel
theorem dX7_isOwn_116 : decode cX7_isOwn 116 = .ok (.lload_n 1, 1) := by decide +kernel
theorem dX7_isOwn_117 : decode cX7_isOwn 117 = .ok (.ldc2_w 351, 3) := by decide +kernel
theorem dX7_isOwn_120 : decode cX7_isOwn 120 = .ok (.lcmp, 1) := by decide +kernel
theorem dX7_isOwn_121 : decode cX7_isOwn 121 = .ok (.ifCond .ne 5, 3) := by decide +kernel
theorem dX7_isOwn_124 : decode cX7_isOwn 124 = .ok (.iconst 1, 1) := by decide +kernel
theorem dX7_isOwn_125 : decode cX7_isOwn 125 = .ok (.ireturn, 1) := by decide +kernel
theorem dX7_isOwn_126 : decode cX7_isOwn 126 = .ok (.lload_n 1, 1) := by decide +kernel
theorem dX7_isOwn_127 : decode cX7_isOwn 127 = .ok (.ldc2_w 353, 3) := by decide +kernel
theorem dX7_isOwn_130 : decode cX7_isOwn 130 = .ok (.lcmp, 1) := by decide +kernel
theorem dX7_isOwn_131 : decode cX7_isOwn 131 = .ok (.ifCond .eq 35, 3) := by decide +kernel
theorem dX7_isOwn_134 : decode cX7_isOwn 134 = .ok (.lload_n 1, 1) := by decide +kernel
theorem dX7_isOwn_135 : decode cX7_isOwn 135 = .ok (.ldc2_w 355, 3) := by decide +kernel
theorem dX7_isOwn_138 : decode cX7_isOwn 138 = .ok (.lcmp, 1) := by decide +kernel
theorem dX7_isOwn_139 : decode cX7_isOwn 139 = .ok (.ifCond .eq 27, 3) := by decide +kernel
theorem dX7_isOwn_142 : decode cX7_isOwn 142 = .ok (.lload_n 1, 1) := by decide +kernel
theorem dX7_isOwn_143 : decode cX7_isOwn 143 = .ok (.ldc2_w 357, 3) := by decide +kernel
theorem dX7_isOwn_146 : decode cX7_isOwn 146 = .ok (.lcmp, 1) := by decide +kernel
theorem dX7_isOwn_147 : decode cX7_isOwn 147 = .ok (.ifCond .eq 19, 3) := by decide +kernel
theorem dX7_isOwn_150 : decode cX7_isOwn 150 = .ok (.lload_n 1, 1) := by decide +kernel
theorem dX7_isOwn_151 : decode cX7_isOwn 151 = .ok (.ldc2_w 359, 3) := by decide +kernel
theorem dX7_isOwn_154 : decode cX7_isOwn 154 = .ok (.lcmp, 1) := by decide +kernel
theorem dX7_isOwn_155 : decode cX7_isOwn 155 = .ok (.ifCond .eq 11, 3) := by decide +kernel
theorem dX7_isOwn_158 : decode cX7_isOwn 158 = .ok (.lload_n 1, 1) := by decide +kernel
theorem dX7_isOwn_159 : decode cX7_isOwn 159 = .ok (.ldc2_w 361, 3) := by decide +kernel
theorem dX7_isOwn_162 : decode cX7_isOwn 162 = .ok (.lcmp, 1) := by decide +kernel
theorem dX7_isOwn_163 : decode cX7_isOwn 163 = .ok (.ifCond .ne 5, 3) := by decide +kernel
theorem dX7_isOwn_166 : decode cX7_isOwn 166 = .ok (.iconst 1, 1) := by decide +kernel
theorem dX7_isOwn_167 : decode cX7_isOwn 167 = .ok (.ireturn, 1) := by decide +kernel
theorem dX7_isOwn_168 : decode cX7_isOwn 168 = .ok (.lload_n 1, 1) := by decide +kernel
theorem dX7_isOwn_169 : decode cX7_isOwn 169 = .ok (.ldc2_w 363, 3) := by decide +kernel
theorem dX7_isOwn_172 : decode cX7_isOwn 172 = .ok (.lcmp, 1) := by decide +kernel
theorem dX7_isOwn_173 : decode cX7_isOwn 173 = .ok (.ifCond .eq 35, 3) := by decide +kernel
theorem dX7_isOwn_176 : decode cX7_isOwn 176 = .ok (.lload_n 1, 1) := by decide +kernel
theorem dX7_isOwn_177 : decode cX7_isOwn 177 = .ok (.ldc2_w 365, 3) := by decide +kernel
theorem dX7_isOwn_180 : decode cX7_isOwn 180 = .ok (.lcmp, 1) := by decide +kernel
theorem dX7_isOwn_181 : decode cX7_isOwn 181 = .ok (.ifCond .eq 27, 3) := by decide +kernel
theorem dX7_isOwn_184 : decode cX7_isOwn 184 = .ok (.lload_n 1, 1) := by decide +kernel
theorem dX7_isOwn_185 : decode cX7_isOwn 185 = .ok (.ldc2_w 367, 3) := by decide +kernel
theorem dX7_isOwn_188 : decode cX7_isOwn 188 = .ok (.lcmp, 1) := by decide +kernel
theorem dX7_isOwn_189 : decode cX7_isOwn 189 = .ok (.ifCond .eq 19, 3) := by decide +kernel
theorem dX7_isOwn_192 : decode cX7_isOwn 192 = .ok (.lload_n 1, 1) := by decide +kernel
theorem dX7_isOwn_193 : decode cX7_isOwn 193 = .ok (.ldc2_w 369, 3) := by decide +kernel
theorem dX7_isOwn_196 : decode cX7_isOwn 196 = .ok (.lcmp, 1) := by decide +kernel
theorem dX7_isOwn_197 : decode cX7_isOwn 197 = .ok (.ifCond .eq 11, 3) := by decide +kernel
theorem dX7_isOwn_200 : decode cX7_isOwn 200 = .ok (.lload_n 1, 1) := by decide +kernel
theorem dX7_isOwn_201 : decode cX7_isOwn 201 = .ok (.ldc2_w 371, 3) := by decide +kernel
theorem dX7_isOwn_204 : decode cX7_isOwn 204 = .ok (.lcmp, 1) := by decide +kernel
theorem dX7_isOwn_205 : decode cX7_isOwn 205 = .ok (.ifCond .ne 5, 3) := by decide +kernel
theorem dX7_isOwn_208 : decode cX7_isOwn 208 = .ok (.iconst 1, 1) := by decide +kernel
theorem dX7_isOwn_209 : decode cX7_isOwn 209 = .ok (.ireturn, 1) := by decide +kernel
theorem dX7_isOwn_210 : decode cX7_isOwn 210 = .ok (.iconst 0, 1) := by decide +kernel
theorem dX7_isOwn_211 : decode cX7_isOwn 211 = .ok (.ireturn, 1) := by decide +kernel
theorem dX7_manyOf_0 : decode cX7_manyOf 0 = .ok (.iload_n 2, 1) := by decide +kernel
theorem dX7_manyOf_1 : decode cX7_manyOf 1 = .ok (.ifCond .ne 12, 3) := by decide +kernel
theorem dX7_manyOf_4 : decode cX7_manyOf 4 = .ok (.aload_n 0, 1) := by decide +kernel
theorem dX7_manyOf_5 : decode cX7_manyOf 5 = .ok (.getfield 54, 3) := by decide +kernel
theorem dX7_manyOf_8 : decode cX7_manyOf 8 = .ok (.iload_n 1, 1) := by decide +kernel
theorem dX7_manyOf_9 : decode cX7_manyOf 9 = .ok (.iaload, 1) := by decide +kernel
theorem dX7_manyOf_10 : decode cX7_manyOf 10 = .ok (.goto 9, 3) := by decide +kernel
theorem dX7_manyOf_13 : decode cX7_manyOf 13 = .ok (.aload_n 0, 1) := by decide +kernel
theorem dX7_manyOf_14 : decode cX7_manyOf 14 = .ok (.getfield 66, 3) := by decide +kernel
theorem dX7_manyOf_17 : decode cX7_manyOf 17 = .ok (.iload_n 1, 1) := by decide +kernel
theorem dX7_manyOf_18 : decode cX7_manyOf 18 = .ok (.iaload, 1) := by decide +kernel
theorem dX7_manyOf_19 : decode cX7_manyOf 19 = .ok (.ireturn, 1) := by decide +kernel
theorem dX7_nameOf_0 : decode cX7_nameOf 0 = .ok (.iload_n 2, 1) := by decide +kernel
theorem dX7_nameOf_1 : decode cX7_nameOf 1 = .ok (.ifCond .ne 17, 3) := by decide +kernel
theorem dX7_nameOf_4 : decode cX7_nameOf 4 = .ok (.aload_n 0, 1) := by decide +kernel
theorem dX7_nameOf_5 : decode cX7_nameOf 5 = .ok (.getfield 114, 3) := by decide +kernel
theorem dX7_nameOf_8 : decode cX7_nameOf 8 = .ok (.bipush 10, 2) := by decide +kernel
theorem dX7_nameOf_10 : decode cX7_nameOf 10 = .ok (.iload_n 1, 1) := by decide +kernel
theorem dX7_nameOf_11 : decode cX7_nameOf 11 = .ok (.imul, 1) := by decide +kernel
theorem dX7_nameOf_12 : decode cX7_nameOf 12 = .ok (.iload_n 3, 1) := by decide +kernel
theorem dX7_nameOf_13 : decode cX7_nameOf 13 = .ok (.iadd, 1) := by decide +kernel
theorem dX7_nameOf_14 : decode cX7_nameOf 14 = .ok (.laload, 1) := by decide +kernel
theorem dX7_nameOf_15 : decode cX7_nameOf 15 = .ok (.goto 14, 3) := by decide +kernel
theorem dX7_nameOf_18 : decode cX7_nameOf 18 = .ok (.aload_n 0, 1) := by decide +kernel
theorem dX7_nameOf_19 : decode cX7_nameOf 19 = .ok (.getfield 118, 3) := by decide +kernel
theorem dX7_nameOf_22 : decode cX7_nameOf 22 = .ok (.bipush 12, 2) := by decide +kernel
theorem dX7_nameOf_24 : decode cX7_nameOf 24 = .ok (.iload_n 1, 1) := by decide +kernel
theorem dX7_nameOf_25 : decode cX7_nameOf 25 = .ok (.imul, 1) := by decide +kernel
theorem dX7_nameOf_26 : decode cX7_nameOf 26 = .ok (.iload_n 3, 1) := by decide +kernel
theorem dX7_nameOf_27 : decode cX7_nameOf 27 = .ok (.iadd, 1) := by decide +kernel
theorem dX7_nameOf_28 : decode cX7_nameOf 28 = .ok (.laload, 1) := by decide +kernel
theorem dX7_nameOf_29 : decode cX7_nameOf 29 = .ok (.lreturn, 1) := by decide +kernel
set_option maxRecDepth 20000 in
theorem ggX7_named_X7_manyOf : GoodIn wsX7_named wsX7_manyOf := goodIn_r _ [6, 7, 8, 15, 16, 17, 18, 19, 20, 21, 22, 23, 24, 25, 26, 27, 28, 29, 30, 31, 32, 33, 34, 35, 36, 37, 38, 39, 40, 41, 42, 43, 44, 45, 46, 47, 48, 49, 50, 51, 52, 53, 54, 55, 56, 57, 58, 59, 60, 61, 62, 63, 64, 65, 66, 67, 68, 69, 70, 71, 72, 73, 74, 75, 76, 77, 78, 79, 80, 81, 82, 83, 84, 85, 86, 87, 88, 89, 90, 91, 92, 93, 94, 95, 96, 97, 98, 99, 100, 101, 102, 103, 104, 105, 106] rfl (by decide +kernel)
set_option maxRecDepth 20000 in
theorem gX7_named_X7_manyOf : GoodIn wsX7_named (wsV RX7 373 RX7 yX7_manyOf wsX7_manyOf) := goodIn_app (goodIn_of _ (by decide +kernel)) ggX7_named_X7_manyOf
set_option maxRecDepth 20000 in
theorem ggX7_named_X7_nameOf : GoodIn wsX7_named wsX7_nameOf := goodIn_r _ [12, 13, 14, 15, 16, 17, 18, 19, 20, 21, 22, 23, 24, 25, 26, 27, 28, 29, 30, 31, 32, 33, 34, 35, 36, 37, 38, 39, 40, 41, 42, 43, 44, 45, 46, 47, 48, 49, 50, 51, 52, 53, 54, 55, 56, 57, 58, 59, 60, 61, 62, 63, 64, 65, 66, 67, 68, 69, 70, 71, 72, 73, 74, 75, 76, 77, 78, 79, 80, 81, 82, 83, 84, 85, 86, 87, 88, 89, 90, 91, 92, 93, 94, 95, 96, 97, 98, 99, 100, 101, 102, 103, 104, 105, 106] rfl (by decide +kernel)
set_option maxRecDepth 20000 in
theorem gX7_named_X7_nameOf : GoodIn wsX7_named (wsV RX7 377 RX7 yX7_nameOf wsX7_nameOf) := goodIn_app (goodIn_of _ (by decide +kernel)) ggX7_named_X7_nameOf
theorem dX7_named_0 : decode cX7_named 0 = .ok (.iconst 0, 1) := by decide +kernel
theorem dX7_named_1 : decode cX7_named 1 = .ok (.istore 4, 2) := by decide +kernel
theorem dX7_named_3 : decode cX7_named 3 = .ok (.iload 4, 2) := by decide +kernel
theorem dX7_named_5 : decode cX7_named 5 = .ok (.aload_n 0, 1) := by decide +kernel
theorem dX7_named_6 : decode cX7_named 6 = .ok (.aload_n 0, 1) := by decide +kernel
theorem dX7_named_7 : decode cX7_named 7 = .ok (.getfield 124, 3) := by decide +kernel
theorem dX7_named_10 : decode cX7_named 10 = .ok (.iload_n 1, 1) := by decide +kernel
theorem dX7_named_11 : decode cX7_named 11 = .ok (.invokevirtual 373, 3) := by decide +kernel
theorem dX7_named_14 : decode cX7_named 14 = .ok (.if_icmp .ge 28, 3) := by decide +kernel
theorem dX7_named_17 : decode cX7_named 17 = .ok (.aload_n 0, 1) := by decide +kernel
theorem dX7_named_18 : decode cX7_named 18 = .ok (.aload_n 0, 1) := by decide +kernel
theorem dX7_named_19 : decode cX7_named 19 = .ok (.getfield 124, 3) := by decide +kernel
theorem dX7_named_22 : decode cX7_named 22 = .ok (.iload_n 1, 1) := by decide +kernel
theorem dX7_named_23 : decode cX7_named 23 = .ok (.iload 4, 2) := by decide +kernel
theorem dX7_named_25 : decode cX7_named 25 = .ok (.invokevirtual 377, 3) := by decide +kernel
theorem dX7_named_28 : decode cX7_named 28 = .ok (.lload_n 2, 1) := by decide +kernel
theorem dX7_named_29 : decode cX7_named 29 = .ok (.lcmp, 1) := by decide +kernel
theorem dX7_named_30 : decode cX7_named 30 = .ok (.ifCond .ne 6, 3) := by decide +kernel
theorem dX7_named_33 : decode cX7_named 33 = .ok (.iload 4, 2) := by decide +kernel
theorem dX7_named_35 : decode cX7_named 35 = .ok (.ireturn, 1) := by decide +kernel
theorem dX7_named_36 : decode cX7_named 36 = .ok (.iinc 4 1, 3) := by decide +kernel
theorem dX7_named_39 : decode cX7_named 39 = .ok (.goto (-36), 3) := by decide +kernel
theorem dX7_named_42 : decode cX7_named 42 = .ok (.iconst (-1), 1) := by decide +kernel
theorem dX7_named_43 : decode cX7_named 43 = .ok (.ireturn, 1) := by decide +kernel
set_option maxRecDepth 20000 in
theorem ggX7_number_X7_lex : GoodIn wsX7_number wsX7_lex := goodIn_r _ [9, 10, 11, 12, 13, 8, 14, 1, 15, 62, 63, 64, 65, 66, 67, 68, 69, 70, 71, 72, 73, 74, 75, 76, 77, 78, 79, 80, 81, 82, 83, 84, 85, 86, 87, 88, 89, 90, 91, 92, 93, 94, 95, 96, 97, 98, 99, 100, 101, 102, 103, 104, 105, 106, 107, 108, 109, 110, 111, 112, 113, 114, 115, 116, 117, 118, 119, 120, 121, 122, 123, 124, 125, 126, 127, 128, 129, 130, 131, 132, 133, 134, 135, 136, 137, 138, 139, 140, 141, 142, 143, 144, 145, 146, 147, 148, 149, 150, 151, 152, 153] rfl (by decide +kernel)
set_option maxRecDepth 20000 in
theorem gX7_number_X7_lex : GoodIn wsX7_number (wsV RX7 314 RX7 yX7_lex wsX7_lex) := goodIn_app (goodIn_of _ (by decide +kernel)) ggX7_number_X7_lex
set_option maxRecDepth 20000 in
theorem ggX7_number_X7_blame : GoodIn wsX7_number wsX7_blame := goodIn_r _ [14, 1, 15, 62, 63, 64, 65, 66, 67, 68, 69, 70, 71, 72, 73, 74, 75, 76, 77, 78, 79, 80, 81, 82, 83, 84, 85, 86, 87, 88, 89, 90, 91, 92, 93, 94, 95, 96, 97, 98, 99, 100, 101, 102, 103, 104, 105, 106, 107, 108, 109, 110, 111, 112, 113, 114, 115, 116, 117, 118, 119, 120, 121, 122, 123, 124, 125, 126, 127, 128, 129, 130, 131, 132, 133, 134, 135, 136, 137, 138, 139, 140, 141, 142, 143, 144, 145, 146, 147, 148, 149, 150, 151, 152, 153] rfl (by decide +kernel)
set_option maxRecDepth 20000 in
theorem gX7_number_X7_blame : GoodIn wsX7_number (wsV RX7 299 RX7 yX7_blame wsX7_blame) := goodIn_app (goodIn_of _ (by decide +kernel)) ggX7_number_X7_blame
set_option maxRecDepth 20000 in
theorem ggX7_number_X7_is : GoodIn wsX7_number wsX7_is := goodIn_r _ [18] rfl (by decide +kernel)
set_option maxRecDepth 20000 in
theorem gX7_number_X7_is : GoodIn wsX7_number (va_wsS RX7 381 yX7_is wsX7_is) := goodIn_app (goodIn_of _ (by decide +kernel)) ggX7_number_X7_is
set_option maxRecDepth 20000 in
theorem ggX7_number_X7_ahead : GoodIn wsX7_number wsX7_ahead := goodIn_r _ [22, 23, 24, 25, 3, 2, 10, 4, 26, 27, 28, 8, 29, 30, 31, 32, 33, 34, 35, 36, 37, 38, 39, 40, 41, 42, 43, 44, 45, 46, 47, 48, 49, 50, 51, 52, 53, 54, 55, 56, 57, 58, 59, 60, 61, 62, 63, 64, 65, 66, 67, 68, 69, 70, 71, 72, 73, 74, 75, 76, 77, 78, 79, 80, 81, 82, 83, 84, 85, 86, 87, 88, 89, 90, 91, 92, 93, 94, 95, 96, 97, 98, 99, 100, 101, 102, 103, 104, 105, 106, 107, 108, 109, 110, 111, 112, 113, 114, 115, 116, 117, 118, 119, 120, 121, 122, 123, 124, 125, 126, 127, 128, 129, 130, 131, 132, 133, 134, 135, 136, 137, 138, 139, 140, 141, 142, 143, 144, 145, 146, 147, 148, 149, 150, 151, 152, 153] rfl (by decide +kernel)
set_option maxRecDepth 20000 in
theorem gX7_number_X7_ahead : GoodIn wsX7_number (wsV RX7 320 RX7 yX7_ahead wsX7_ahead) := goodIn_app (goodIn_of _ (by decide +kernel)) ggX7_number_X7_ahead
theorem dX7_number_0 : decode cX7_number 0 = .ok (.aload_n 0, 1) := by decide +kernel
theorem dX7_number_1 : decode cX7_number 1 = .ok (.invokevirtual 314, 3) := by decide +kernel
theorem dX7_number_4 : decode cX7_number 4 = .ok (.aload_n 0, 1) := by decide +kernel
theorem dX7_number_5 : decode cX7_number 5 = .ok (.getfield 36, 3) := by decide +kernel
theorem dX7_number_8 : decode cX7_number 8 = .ok (.ifCond .le 5, 3) := by decide +kernel
theorem dX7_number_11 : decode cX7_number 11 = .ok (.iconst 0, 1) := by decide +kernel
theorem dX7_number_12 : decode cX7_number 12 = .ok (.ireturn, 1) := by decide +kernel
theorem dX7_number_13 : decode cX7_number 13 = .ok (.aload_n 0, 1) := by decide +kernel
theorem dX7_number_14 : decode cX7_number 14 = .ok (.getfield 20, 3) := by decide +kernel
theorem dX7_number_17 : decode cX7_number 17 = .ok (.iconst 2, 1) := by decide +kernel
theorem dX7_number_18 : decode cX7_number 18 = .ok (.if_icmp .eq 12, 3) := by decide +kernel
theorem dX7_number_21 : decode cX7_number 21 = .ok (.aload_n 0, 1) := by decide +kernel
theorem dX7_number_22 : decode cX7_number 22 = .ok (.iconst 1, 1) := by decide +kernel
theorem dX7_number_23 : decode cX7_number 23 = .ok (.aload_n 0, 1) := by decide +kernel
theorem dX7_number_24 : decode cX7_number 24 = .ok (.getfield 23, 3) := by decide +kernel
theorem dX7_number_27 : decode cX7_number 27 = .ok (.invokevirtual 299, 3) := by decide +kernel
theorem dX7_number_30 : decode cX7_number 30 = .ok (.aload_n 0, 1) := by decide +kernel
theorem dX7_number_31 : decode cX7_number 31 = .ok (.getfield 36, 3) := by decide +kernel
theorem dX7_number_34 : decode cX7_number 34 = .ok (.ifCond .ne 24, 3) := by decide +kernel
theorem dX7_number_37 : decode cX7_number 37 = .ok (.aload_n 0, 1) := by decide +kernel
theorem dX7_number_38 : decode cX7_number 38 = .ok (.getfield 29, 3) := by decide +kernel
theorem dX7_number_41 : decode cX7_number 41 = .ok (.iload_n 1, 1) := by decide +kernel
theorem dX7_number_42 : decode cX7_number 42 = .ok (.iload_n 2, 1) := by decide +kernel
theorem dX7_number_43 : decode cX7_number 43 = .ok (.invokestatic 381, 3) := by decide +kernel
theorem dX7_number_46 : decode cX7_number 46 = .ok (.ifCond .ne 12, 3) := by decide +kernel
theorem dX7_number_49 : decode cX7_number 49 = .ok (.aload_n 0, 1) := by decide +kernel
theorem dX7_number_50 : decode cX7_number 50 = .ok (.iconst 4, 1) := by decide +kernel
theorem dX7_number_51 : decode cX7_number 51 = .ok (.aload_n 0, 1) := by decide +kernel
theorem dX7_number_52 : decode cX7_number 52 = .ok (.getfield 23, 3) := by decide +kernel
theorem dX7_number_55 : decode cX7_number 55 = .ok (.invokevirtual 299, 3) := by decide +kernel
theorem dX7_number_58 : decode cX7_number 58 = .ok (.aload_n 0, 1) := by decide +kernel
theorem dX7_number_59 : decode cX7_number 59 = .ok (.getfield 29, 3) := by decide +kernel
theorem dX7_number_62 : decode cX7_number 62 = .ok (.istore_n 3, 1) := by decide +kernel
theorem dX7_number_63 : decode cX7_number 63 = .ok (.aload_n 0, 1) := by decide +kernel
theorem dX7_number_64 : decode cX7_number 64 = .ok (.getfield 36, 3) := by decide +kernel
theorem dX7_number_67 : decode cX7_number 67 = .ok (.ifCond .ne 7, 3) := by decide +kernel
theorem dX7_number_70 : decode cX7_number 70 = .ok (.aload_n 0, 1) := by decide +kernel
theorem dX7_number_71 : decode cX7_number 71 = .ok (.invokevirtual 320, 3) := by decide +kernel
theorem dX7_number_74 : decode cX7_number 74 = .ok (.iload_n 3, 1) := by decide +kernel
theorem dX7_number_75 : decode cX7_number 75 = .ok (.ireturn, 1) := by decide +kernel
theorem dX7_add_0 : decode cX7_add 0 = .ok (.aload_n 0, 1) := by decide +kernel
theorem dX7_add_1 : decode cX7_add 1 = .ok (.getfield 108, 3) := by decide +kernel
theorem dX7_add_4 : decode cX7_add 4 = .ok (.sipush 1600, 3) := by decide +kernel
theorem dX7_add_7 : decode cX7_add 7 = .ok (.aload_n 0, 1) := by decide +kernel
theorem dX7_add_8 : decode cX7_add 8 = .ok (.getfield 124, 3) := by decide +kernel
theorem dX7_add_11 : decode cX7_add 11 = .ok (.imul, 1) := by decide +kernel
theorem dX7_add_12 : decode cX7_add 12 = .ok (.aload_n 0, 1) := by decide +kernel
theorem dX7_add_13 : decode cX7_add 13 = .ok (.getfield 121, 3) := by decide +kernel
theorem dX7_add_16 : decode cX7_add 16 = .ok (.iadd, 1) := by decide +kernel
theorem dX7_add_17 : decode cX7_add 17 = .ok (.iload_n 1, 1) := by decide +kernel
theorem dX7_add_18 : decode cX7_add 18 = .ok (.iastore, 1) := by decide +kernel
theorem dX7_add_19 : decode cX7_add 19 = .ok (.aload_n 0, 1) := by decide +kernel
theorem dX7_add_20 : decode cX7_add 20 = .ok (.getfield 111, 3) := by decide +kernel
theorem dX7_add_23 : decode cX7_add 23 = .ok (.sipush 1600, 3) := by decide +kernel
theorem dX7_add_26 : decode cX7_add 26 = .ok (.aload_n 0, 1) := by decide +kernel
theorem dX7_add_27 : decode cX7_add 27 = .ok (.getfield 124, 3) := by decide +kernel
theorem dX7_add_30 : decode cX7_add 30 = .ok (.imul, 1) := by decide +kernel
theorem dX7_add_31 : decode cX7_add 31 = .ok (.aload_n 0, 1) := by decide +kernel
theorem dX7_add_32 : decode cX7_add 32 = .ok (.getfield 121, 3) := by decide +kernel
theorem dX7_add_35 : decode cX7_add 35 = .ok (.iadd, 1) := by decide +kernel
theorem dX7_add_36 : decode cX7_add 36 = .ok (.iload_n 2, 1) := by decide +kernel
theorem dX7_add_37 : decode cX7_add 37 = .ok (.iastore, 1) := by decide +kernel
theorem dX7_add_38 : decode cX7_add 38 = .ok (.aload_n 0, 1) := by decide +kernel
theorem dX7_add_39 : decode cX7_add 39 = .ok (.dup, 1) := by decide +kernel
theorem dX7_add_40 : decode cX7_add 40 = .ok (.getfield 121, 3) := by decide +kernel
theorem dX7_add_43 : decode cX7_add 43 = .ok (.iconst 1, 1) := by decide +kernel
theorem dX7_add_44 : decode cX7_add 44 = .ok (.iadd, 1) := by decide +kernel
theorem dX7_add_45 : decode cX7_add 45 = .ok (.putfield 121, 3) := by decide +kernel
theorem dX7_add_48 : decode cX7_add 48 = .ok (.return_, 1) := by decide +kernel
theorem dX7_rank_0 : decode cX7_rank 0 = .ok (.iload_n 0, 1) := by decide +kernel
theorem dX7_rank_1 : decode cX7_rank 1 = .ok (.bipush 21, 2) := by decide +kernel
theorem dX7_rank_3 : decode cX7_rank 3 = .ok (.if_icmp .ne 7, 3) := by decide +kernel
theorem dX7_rank_6 : decode cX7_rank 6 = .ok (.iconst 1, 1) := by decide +kernel
theorem dX7_rank_7 : decode cX7_rank 7 = .ok (.goto 63, 3) := by decide +kernel
theorem dX7_rank_10 : decode cX7_rank 10 = .ok (.iload_n 0, 1) := by decide +kernel
theorem dX7_rank_11 : decode cX7_rank 11 = .ok (.bipush 20, 2) := by decide +kernel
theorem dX7_rank_13 : decode cX7_rank 13 = .ok (.if_icmp .ne 7, 3) := by decide +kernel
theorem dX7_rank_16 : decode cX7_rank 16 = .ok (.iconst 2, 1) := by decide +kernel
theorem dX7_rank_17 : decode cX7_rank 17 = .ok (.goto 53, 3) := by decide +kernel
theorem dX7_rank_20 : decode cX7_rank 20 = .ok (.iload_n 0, 1) := by decide +kernel
theorem dX7_rank_21 : decode cX7_rank 21 = .ok (.bipush 22, 2) := by decide +kernel
theorem dX7_rank_23 : decode cX7_rank 23 = .ok (.if_icmp .ne 7, 3) := by decide +kernel
theorem dX7_rank_26 : decode cX7_rank 26 = .ok (.iconst 3, 1) := by decide +kernel
theorem dX7_rank_27 : decode cX7_rank 27 = .ok (.goto 43, 3) := by decide +kernel
theorem dX7_rank_30 : decode cX7_rank 30 = .ok (.iload_n 0, 1) := by decide +kernel
theorem dX7_rank_31 : decode cX7_rank 31 = .ok (.bipush 17, 2) := by decide +kernel
theorem dX7_rank_33 : decode cX7_rank 33 = .ok (.if_icmp .eq 15, 3) := by decide +kernel
theorem dX7_rank_36 : decode cX7_rank 36 = .ok (.iload_n 0, 1) := by decide +kernel
theorem dX7_rank_37 : decode cX7_rank 37 = .ok (.bipush 18, 2) := by decide +kernel
theorem dX7_rank_39 : decode cX7_rank 39 = .ok (.if_icmp .eq 9, 3) := by decide +kernel
theorem dX7_rank_42 : decode cX7_rank 42 = .ok (.iload_n 0, 1) := by decide +kernel
theorem dX7_rank_43 : decode cX7_rank 43 = .ok (.bipush 19, 2) := by decide +kernel
theorem dX7_rank_45 : decode cX7_rank 45 = .ok (.if_icmp .ne 7, 3) := by decide +kernel
theorem dX7_rank_48 : decode cX7_rank 48 = .ok (.iconst 4, 1) := by decide +kernel
theorem dX7_rank_49 : decode cX7_rank 49 = .ok (.goto 21, 3) := by decide +kernel
theorem dX7_rank_52 : decode cX7_rank 52 = .ok (.iload_n 0, 1) := by decide +kernel
theorem dX7_rank_53 : decode cX7_rank 53 = .ok (.bipush 10, 2) := by decide +kernel
theorem dX7_rank_55 : decode cX7_rank 55 = .ok (.if_icmp .eq 9, 3) := by decide +kernel
theorem dX7_rank_58 : decode cX7_rank 58 = .ok (.iload_n 0, 1) := by decide +kernel
theorem dX7_rank_59 : decode cX7_rank 59 = .ok (.bipush 11, 2) := by decide +kernel
theorem dX7_rank_61 : decode cX7_rank 61 = .ok (.if_icmp .ne 7, 3) := by decide +kernel
theorem dX7_rank_64 : decode cX7_rank 64 = .ok (.iconst 5, 1) := by decide +kernel
theorem dX7_rank_65 : decode cX7_rank 65 = .ok (.goto 5, 3) := by decide +kernel
theorem dX7_rank_68 : decode cX7_rank 68 = .ok (.bipush 6, 2) := by decide +kernel
theorem dX7_rank_70 : decode cX7_rank 70 = .ok (.ireturn, 1) := by decide +kernel
set_option maxRecDepth 20000 in
theorem ggX7_joins_X7_rank : GoodIn wsX7_joins wsX7_rank := goodIn_r _ [9] rfl (by decide +kernel)
set_option maxRecDepth 20000 in
theorem gX7_joins_X7_rank : GoodIn wsX7_joins (va_wsS RX7 385 yX7_rank wsX7_rank) := goodIn_app (goodIn_of _ (by decide +kernel)) ggX7_joins_X7_rank
set_option maxRecDepth 20000 in
theorem ggX7_joins_X7_add : GoodIn wsX7_joins wsX7_add := goodIn_r _ [13, 14, 15, 16, 17, 18, 19, 20, 21, 22, 23, 24, 25, 26, 27, 28, 29, 30, 31, 32, 33, 34, 35, 36, 37, 38, 39, 40, 41, 42, 43, 44, 45, 46, 47, 48, 49, 50, 51, 52, 53, 54, 55, 56, 57, 58, 59, 60, 61, 62, 63, 64, 65, 66, 67, 68, 69, 70, 71, 72, 73, 74, 75, 76, 77, 78, 79, 80, 81, 82, 83, 84, 85, 86, 87, 88, 89, 90, 91, 92, 93, 94, 95, 96, 97, 98, 99, 100, 101, 102, 103, 104, 105, 106, 107, 108, 109] rfl (by decide +kernel)
set_option maxRecDepth 20000 in
theorem gX7_joins_X7_add : GoodIn wsX7_joins (wsV RX7 388 RX7 yX7_add wsX7_add) := goodIn_app (goodIn_of _ (by decide +kernel)) ggX7_joins_X7_add
theorem dX7_joins_0 : decode cX7_joins 0 = .ok (.aload_n 0, 1) := by decide +kernel
theorem dX7_joins_1 : decode cX7_joins 1 = .ok (.getfield 152, 3) := by decide +kernel
theorem dX7_joins_4 : decode cX7_joins 4 = .ok (.aload_n 0, 1) := by decide +kernel
theorem dX7_joins_5 : decode cX7_joins 5 = .ok (.getfield 140, 3) := by decide +kernel
theorem dX7_joins_8 : decode cX7_joins 8 = .ok (.aload_n 0, 1) := by decide +kernel
theorem dX7_joins_9 : decode cX7_joins 9 = .ok (.getfield 143, 3) := by decide +kernel
theorem dX7_joins_12 : decode cX7_joins 12 = .ok (.iconst 1, 1) := by decide +kernel
theorem dX7_joins_13 : decode cX7_joins 13 = .ok (.isub, 1) := by decide +kernel
theorem dX7_joins_14 : decode cX7_joins 14 = .ok (.iaload, 1) := by decide +kernel
theorem dX7_joins_15 : decode cX7_joins 15 = .ok (.if_icmp .le 72, 3) := by decide +kernel
theorem dX7_joins_18 : decode cX7_joins 18 = .ok (.aload_n 0, 1) := by decide +kernel
theorem dX7_joins_19 : decode cX7_joins 19 = .ok (.getfield 149, 3) := by decide +kernel
theorem dX7_joins_22 : decode cX7_joins 22 = .ok (.aload_n 0, 1) := by decide +kernel
theorem dX7_joins_23 : decode cX7_joins 23 = .ok (.getfield 152, 3) := by decide +kernel
theorem dX7_joins_26 : decode cX7_joins 26 = .ok (.iconst 1, 1) := by decide +kernel
theorem dX7_joins_27 : decode cX7_joins 27 = .ok (.isub, 1) := by decide +kernel
theorem dX7_joins_28 : decode cX7_joins 28 = .ok (.iaload, 1) := by decide +kernel
theorem dX7_joins_29 : decode cX7_joins 29 = .ok (.invokestatic 385, 3) := by decide +kernel
theorem dX7_joins_32 : decode cX7_joins 32 = .ok (.iload_n 1, 1) := by decide +kernel
theorem dX7_joins_33 : decode cX7_joins 33 = .ok (.if_icmp .lt 54, 3) := by decide +kernel
theorem dX7_joins_36 : decode cX7_joins 36 = .ok (.aload_n 0, 1) := by decide +kernel
theorem dX7_joins_37 : decode cX7_joins 37 = .ok (.dup, 1) := by decide +kernel
theorem dX7_joins_38 : decode cX7_joins 38 = .ok (.getfield 152, 3) := by decide +kernel
theorem dX7_joins_41 : decode cX7_joins 41 = .ok (.iconst 1, 1) := by decide +kernel
theorem dX7_joins_42 : decode cX7_joins 42 = .ok (.isub, 1) := by decide +kernel
theorem dX7_joins_43 : decode cX7_joins 43 = .ok (.putfield 152, 3) := by decide +kernel
theorem dX7_joins_46 : decode cX7_joins 46 = .ok (.aload_n 0, 1) := by decide +kernel
theorem dX7_joins_47 : decode cX7_joins 47 = .ok (.aload_n 0, 1) := by decide +kernel
theorem dX7_joins_48 : decode cX7_joins 48 = .ok (.getfield 149, 3) := by decide +kernel
theorem dX7_joins_51 : decode cX7_joins 51 = .ok (.aload_n 0, 1) := by decide +kernel
theorem dX7_joins_52 : decode cX7_joins 52 = .ok (.getfield 152, 3) := by decide +kernel
theorem dX7_joins_55 : decode cX7_joins 55 = .ok (.iaload, 1) := by decide +kernel
theorem dX7_joins_56 : decode cX7_joins 56 = .ok (.iconst 0, 1) := by decide +kernel
theorem dX7_joins_57 : decode cX7_joins 57 = .ok (.invokevirtual 388, 3) := by decide +kernel
theorem dX7_joins_60 : decode cX7_joins 60 = .ok (.aload_n 0, 1) := by decide +kernel
theorem dX7_joins_61 : decode cX7_joins 61 = .ok (.getfield 149, 3) := by decide +kernel
theorem dX7_joins_64 : decode cX7_joins 64 = .ok (.aload_n 0, 1) := by decide +kernel
theorem dX7_joins_65 : decode cX7_joins 65 = .ok (.getfield 152, 3) := by decide +kernel
theorem dX7_joins_68 : decode cX7_joins 68 = .ok (.iaload, 1) := by decide +kernel
theorem dX7_joins_69 : decode cX7_joins 69 = .ok (.bipush 22, 2) := by decide +kernel
theorem dX7_joins_71 : decode cX7_joins 71 = .ok (.if_icmp .ne (-71), 3) := by decide +kernel
theorem dX7_joins_74 : decode cX7_joins 74 = .ok (.aload_n 0, 1) := by decide +kernel
theorem dX7_joins_75 : decode cX7_joins 75 = .ok (.dup, 1) := by decide +kernel
theorem dX7_joins_76 : decode cX7_joins 76 = .ok (.getfield 146, 3) := by decide +kernel
theorem dX7_joins_79 : decode cX7_joins 79 = .ok (.iconst 1, 1) := by decide +kernel
theorem dX7_joins_80 : decode cX7_joins 80 = .ok (.isub, 1) := by decide +kernel
theorem dX7_joins_81 : decode cX7_joins 81 = .ok (.putfield 146, 3) := by decide +kernel
theorem dX7_joins_84 : decode cX7_joins 84 = .ok (.goto (-84), 3) := by decide +kernel
theorem dX7_joins_87 : decode cX7_joins 87 = .ok (.return_, 1) := by decide +kernel
theorem dX7_holdsBack_0 : decode cX7_holdsBack 0 = .ok (.aload_n 0, 1) := by decide +kernel
theorem dX7_holdsBack_1 : decode cX7_holdsBack 1 = .ok (.getfield 149, 3) := by decide +kernel
theorem dX7_holdsBack_4 : decode cX7_holdsBack 4 = .ok (.aload_n 0, 1) := by decide +kernel
theorem dX7_holdsBack_5 : decode cX7_holdsBack 5 = .ok (.getfield 152, 3) := by decide +kernel
theorem dX7_holdsBack_8 : decode cX7_holdsBack 8 = .ok (.iload_n 1, 1) := by decide +kernel
theorem dX7_holdsBack_9 : decode cX7_holdsBack 9 = .ok (.iastore, 1) := by decide +kernel
theorem dX7_holdsBack_10 : decode cX7_holdsBack 10 = .ok (.aload_n 0, 1) := by decide +kernel
theorem dX7_holdsBack_11 : decode cX7_holdsBack 11 = .ok (.dup, 1) := by decide +kernel
theorem dX7_holdsBack_12 : decode cX7_holdsBack 12 = .ok (.getfield 152, 3) := by decide +kernel
theorem dX7_holdsBack_15 : decode cX7_holdsBack 15 = .ok (.iconst 1, 1) := by decide +kernel
theorem dX7_holdsBack_16 : decode cX7_holdsBack 16 = .ok (.iadd, 1) := by decide +kernel
theorem dX7_holdsBack_17 : decode cX7_holdsBack 17 = .ok (.putfield 152, 3) := by decide +kernel
theorem dX7_holdsBack_20 : decode cX7_holdsBack 20 = .ok (.return_, 1) := by decide +kernel
theorem dX7_pushes_0 : decode cX7_pushes 0 = .ok (.aload_n 0, 1) := by decide +kernel
theorem dX7_pushes_1 : decode cX7_pushes 1 = .ok (.getfield 127, 3) := by decide +kernel
theorem dX7_pushes_4 : decode cX7_pushes 4 = .ok (.aload_n 0, 1) := by decide +kernel
theorem dX7_pushes_5 : decode cX7_pushes 5 = .ok (.getfield 143, 3) := by decide +kernel
theorem dX7_pushes_8 : decode cX7_pushes 8 = .ok (.iload_n 1, 1) := by decide +kernel
theorem dX7_pushes_9 : decode cX7_pushes 9 = .ok (.iastore, 1) := by decide +kernel
theorem dX7_pushes_10 : decode cX7_pushes 10 = .ok (.aload_n 0, 1) := by decide +kernel
theorem dX7_pushes_11 : decode cX7_pushes 11 = .ok (.getfield 130, 3) := by decide +kernel
theorem dX7_pushes_14 : decode cX7_pushes 14 = .ok (.aload_n 0, 1) := by decide +kernel
theorem dX7_pushes_15 : decode cX7_pushes 15 = .ok (.getfield 143, 3) := by decide +kernel
theorem dX7_pushes_18 : decode cX7_pushes 18 = .ok (.iconst 0, 1) := by decide +kernel
theorem dX7_pushes_19 : decode cX7_pushes 19 = .ok (.iastore, 1) := by decide +kernel
theorem dX7_pushes_20 : decode cX7_pushes 20 = .ok (.aload_n 0, 1) := by decide +kernel
theorem dX7_pushes_21 : decode cX7_pushes 21 = .ok (.getfield 133, 3) := by decide +kernel
theorem dX7_pushes_24 : decode cX7_pushes 24 = .ok (.aload_n 0, 1) := by decide +kernel
theorem dX7_pushes_25 : decode cX7_pushes 25 = .ok (.getfield 143, 3) := by decide +kernel
theorem dX7_pushes_28 : decode cX7_pushes 28 = .ok (.iconst 1, 1) := by decide +kernel
theorem dX7_pushes_29 : decode cX7_pushes 29 = .ok (.bastore, 1) := by decide +kernel
theorem dX7_pushes_30 : decode cX7_pushes 30 = .ok (.aload_n 0, 1) := by decide +kernel
theorem dX7_pushes_31 : decode cX7_pushes 31 = .ok (.getfield 140, 3) := by decide +kernel
theorem dX7_pushes_34 : decode cX7_pushes 34 = .ok (.aload_n 0, 1) := by decide +kernel
theorem dX7_pushes_35 : decode cX7_pushes 35 = .ok (.getfield 143, 3) := by decide +kernel
theorem dX7_pushes_38 : decode cX7_pushes 38 = .ok (.aload_n 0, 1) := by decide +kernel
theorem dX7_pushes_39 : decode cX7_pushes 39 = .ok (.getfield 152, 3) := by decide +kernel
theorem dX7_pushes_42 : decode cX7_pushes 42 = .ok (.iastore, 1) := by decide +kernel
theorem dX7_pushes_43 : decode cX7_pushes 43 = .ok (.aload_n 0, 1) := by decide +kernel
theorem dX7_pushes_44 : decode cX7_pushes 44 = .ok (.dup, 1) := by decide +kernel
theorem dX7_pushes_45 : decode cX7_pushes 45 = .ok (.getfield 143, 3) := by decide +kernel
theorem dX7_pushes_48 : decode cX7_pushes 48 = .ok (.iconst 1, 1) := by decide +kernel
theorem dX7_pushes_49 : decode cX7_pushes 49 = .ok (.iadd, 1) := by decide +kernel
theorem dX7_pushes_50 : decode cX7_pushes 50 = .ok (.putfield 143, 3) := by decide +kernel
theorem dX7_pushes_53 : decode cX7_pushes 53 = .ok (.return_, 1) := by decide +kernel
set_option maxRecDepth 20000 in
theorem ggX7_opens_X7_blame : GoodIn wsX7_opens wsX7_blame := goodIn_r _ [8, 3, 9, 66, 67, 68, 69, 70, 71, 72, 73, 74, 75, 76, 77, 78, 79, 80, 81, 82, 83, 84, 85, 86, 87, 88, 89, 90, 91, 92, 93, 94, 95, 96, 97, 98, 99, 100, 101, 102, 103, 104, 105, 106, 107, 108, 109, 110, 111, 112, 113, 114, 115, 116, 117, 118, 119, 120, 121, 122, 123, 124, 125, 126, 127, 128, 129, 130, 131, 132, 133, 134, 135, 136, 137, 138, 139, 140, 141, 142, 143, 144, 145, 146, 147, 148, 149, 150, 151, 152, 153, 154, 155, 156, 157] rfl (by decide +kernel)
set_option maxRecDepth 20000 in
theorem gX7_opens_X7_blame : GoodIn wsX7_opens (wsV RX7 299 RX7 yX7_blame wsX7_blame) := goodIn_app (goodIn_of _ (by decide +kernel)) ggX7_opens_X7_blame
set_option maxRecDepth 20000 in
theorem ggX7_opens_X7_ahead : GoodIn wsX7_opens wsX7_ahead := goodIn_r _ [13, 14, 15, 16, 2, 17, 18, 19, 20, 21, 22, 7, 23, 24, 25, 26, 27, 28, 29, 30, 31, 32, 33, 34, 35, 36, 37, 38, 39, 40, 41, 42, 43, 44, 45, 46, 47, 48, 49, 50, 51, 52, 53, 54, 55, 66, 67, 68, 69, 70, 71, 72, 73, 74, 75, 76, 77, 78, 79, 80, 81, 82, 83, 84, 85, 86, 87, 88, 89, 90, 91, 92, 93, 94, 95, 96, 97, 98, 99, 100, 101, 102, 103, 104, 105, 106, 107, 108, 109, 110, 111, 112, 113, 114, 115, 116, 117, 118, 119, 120, 121, 122, 123, 124, 125, 126, 127, 128, 129, 130, 131, 132, 133, 134, 135, 136, 137, 138, 139, 140, 141, 142, 143, 144, 145, 146, 147, 148, 149, 150, 151, 152, 153, 154, 155, 156, 157] rfl (by decide +kernel)
set_option maxRecDepth 20000 in
theorem gX7_opens_X7_ahead : GoodIn wsX7_opens (wsV RX7 320 RX7 yX7_ahead wsX7_ahead) := goodIn_app (goodIn_of _ (by decide +kernel)) ggX7_opens_X7_ahead
set_option maxRecDepth 20000 in
theorem ggX7_opens_X7_pushes : GoodIn wsX7_opens wsX7_pushes := goodIn_r _ [59, 60, 61, 62, 63, 64, 65, 66, 67, 68, 69, 70, 71, 72, 73, 74, 75, 76, 77, 78, 79, 80, 81, 82, 83, 84, 85, 86, 87, 88, 89, 90, 91, 92, 93, 94, 95, 96, 97, 98, 99, 100, 101, 102, 103, 104, 105, 106, 107, 108, 109, 110, 111, 112, 113, 114, 115, 116, 117, 118, 119, 120, 121, 122, 123, 124, 125, 126, 127, 128, 129, 130, 131, 132, 133, 134, 135, 136, 137, 138, 139, 140, 141, 142, 143, 144, 145, 146, 147, 148, 149, 150, 151, 152, 153, 154, 155, 156, 157] rfl (by decide +kernel)
set_option maxRecDepth 20000 in
theorem gX7_opens_X7_pushes : GoodIn wsX7_opens (wsV RX7 391 RX7 yX7_pushes wsX7_pushes) := goodIn_app (goodIn_of _ (by decide +kernel)) ggX7_opens_X7_pushes
theorem dX7_opens_0 : decode cX7_opens 0 = .ok (.aload_n 0, 1) := by decide +kernel
theorem dX7_opens_1 : decode cX7_opens 1 = .ok (.getfield 146, 3) := by decide +kernel
theorem dX7_opens_4 : decode cX7_opens 4 = .ok (.bipush 7, 2) := by decide +kernel
theorem dX7_opens_6 : decode cX7_opens 6 = .ok (.if_icmp .ne 12, 3) := by decide +kernel
theorem dX7_opens_9 : decode cX7_opens 9 = .ok (.aload_n 0, 1) := by decide +kernel
theorem dX7_opens_10 : decode cX7_opens 10 = .ok (.iconst 5, 1) := by decide +kernel
theorem dX7_opens_11 : decode cX7_opens 11 = .ok (.aload_n 0, 1) := by decide +kernel
theorem dX7_opens_12 : decode cX7_opens 12 = .ok (.getfield 23, 3) := by decide +kernel
theorem dX7_opens_15 : decode cX7_opens 15 = .ok (.invokevirtual 299, 3) := by decide +kernel
theorem dX7_opens_18 : decode cX7_opens 18 = .ok (.aload_n 0, 1) := by decide +kernel
