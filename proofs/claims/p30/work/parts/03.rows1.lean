theorem dX4_stand_26 : decode cX4_stand 26 = .ok (.iadd, 1) := by decide +kernel
theorem dX4_stand_27 : decode cX4_stand 27 = .ok (.aload_n 0, 1) := by decide +kernel
theorem dX4_stand_28 : decode cX4_stand 28 = .ok (.getfield 18, 3) := by decide +kernel
theorem dX4_stand_31 : decode cX4_stand 31 = .ok (.getfield 78, 3) := by decide +kernel
theorem dX4_stand_34 : decode cX4_stand 34 = .ok (.invokevirtual 81, 3) := by decide +kernel
theorem dX4_stand_37 : decode cX4_stand 37 = .ok (.return_, 1) := by decide +kernel
set_option maxRecDepth 20000 in
theorem ggX4_spread_X4_stand : GoodIn wsX4_spread wsX4_stand := goodIn_r _ [16, 2, 17, 18, 19, 20, 21, 22, 15, 23, 4, 24, 25, 26, 27, 7, 28, 29, 30, 31, 32, 33, 34, 35, 36, 37, 38, 39, 40, 145, 146, 147, 148, 149, 150, 171, 172, 173, 174] rfl (by decide +kernel)
set_option maxRecDepth 20000 in
theorem gX4_spread_X4_stand : GoodIn wsX4_spread (wsV RX4 85 RX4 yX4_stand wsX4_stand) := goodIn_app (goodIn_of _ (by decide +kernel)) ggX4_spread_X4_stand
set_option maxRecDepth 20000 in
theorem ggX4_spread_X5_mayBeSaid : GoodIn wsX4_spread wsX5_mayBeSaid := goodIn_r _ [45, 46, 47, 48, 49, 50, 44, 51, 52, 53, 54, 55, 56, 57, 58, 59, 60, 61, 62, 63, 9, 10, 11, 64, 65, 66, 67, 68, 69, 70, 71, 72, 73, 74, 75, 76, 77, 78, 79, 80, 81, 82, 83, 84, 85, 86, 87, 88, 89, 90, 91, 92, 93, 94, 95, 96, 97, 98, 99, 100, 101, 102, 103, 104, 105, 106, 107, 108, 109, 110, 111, 112, 113, 114, 115, 116, 117, 118, 119, 120, 121, 122, 123, 124, 125, 126, 127, 128, 129, 130, 131, 132, 151, 152, 153, 154, 155, 156, 157, 158, 159, 160, 161, 162, 163, 164, 165, 166, 167, 168, 169, 170, 171, 172, 173, 174] rfl (by decide +kernel)
set_option maxRecDepth 20000 in
theorem gX4_spread_X5_mayBeSaid : GoodIn wsX4_spread (wsV RX4 88 RX5 yX5_mayBeSaid wsX5_mayBeSaid) := goodIn_app (goodIn_of _ (by decide +kernel)) ggX4_spread_X5_mayBeSaid
set_option maxRecDepth 20000 in
theorem ggX4_spread_X5_seaBehind : GoodIn wsX4_spread wsX5_seaBehind := goodIn_r _ [136, 72, 137, 138, 139, 44, 140, 63, 9, 10, 11, 102, 103, 104, 52, 53, 54, 55, 56, 57, 58, 59, 60, 61, 62, 64, 65, 66, 67, 68, 69, 70, 71, 47, 73, 74, 75, 76, 77, 78, 79, 80, 81, 82, 83, 84, 85, 86, 87, 88, 89, 90, 91, 46, 92, 93, 94, 95, 96, 97, 98, 99, 100, 101, 105, 106, 107, 108, 109, 110, 111, 112, 113, 114, 115, 116, 117, 118, 171, 172, 173, 174, 151, 152, 153, 154, 155, 156, 157, 158, 159, 160, 161, 162, 163, 164, 165, 166, 167, 168, 169, 170] rfl (by decide +kernel)
set_option maxRecDepth 20000 in
theorem gX4_spread_X5_seaBehind : GoodIn wsX4_spread (wsV RX4 95 RX5 yX5_seaBehind wsX5_seaBehind) := goodIn_app (goodIn_of _ (by decide +kernel)) ggX4_spread_X5_seaBehind
set_option maxRecDepth 20000 in
theorem ggX4_spread_X4_wishesOf : GoodIn wsX4_spread wsX4_wishesOf := goodIn_r _ [31, 4, 145, 146, 147, 148, 149, 150] rfl (by decide +kernel)
set_option maxRecDepth 20000 in
theorem gX4_spread_X4_wishesOf : GoodIn wsX4_spread (wsV RX4 75 RX4 yX4_wishesOf wsX4_wishesOf) := goodIn_app (goodIn_of _ (by decide +kernel)) ggX4_spread_X4_wishesOf
set_option maxRecDepth 20000 in
theorem ggX4_spread_X5_thingsBehind : GoodIn wsX4_spread wsX5_thingsBehind := goodIn_r _ [144, 46, 128, 97, 151, 152, 153, 154, 155, 156, 157, 158, 159, 160, 161, 162, 163, 164, 165, 166, 167, 168, 169, 170] rfl (by decide +kernel)
set_option maxRecDepth 20000 in
theorem gX4_spread_X5_thingsBehind : GoodIn wsX4_spread (wsV RX4 99 RX5 yX5_thingsBehind wsX5_thingsBehind) := goodIn_app (goodIn_of _ (by decide +kernel)) ggX4_spread_X5_thingsBehind
theorem dX4_spread_0 : decode cX4_spread 0 = .ok (.aload_n 0, 1) := by decide +kernel
theorem dX4_spread_1 : decode cX4_spread 1 = .ok (.iload_n 1, 1) := by decide +kernel
theorem dX4_spread_2 : decode cX4_spread 2 = .ok (.invokevirtual 85, 3) := by decide +kernel
theorem dX4_spread_5 : decode cX4_spread 5 = .ok (.aload_n 0, 1) := by decide +kernel
theorem dX4_spread_6 : decode cX4_spread 6 = .ok (.getfield 25, 3) := by decide +kernel
theorem dX4_spread_9 : decode cX4_spread 9 = .ok (.aload_n 0, 1) := by decide +kernel
theorem dX4_spread_10 : decode cX4_spread 10 = .ok (.getfield 22, 3) := by decide +kernel
theorem dX4_spread_13 : decode cX4_spread 13 = .ok (.invokevirtual 88, 3) := by decide +kernel
theorem dX4_spread_16 : decode cX4_spread 16 = .ok (.istore_n 2, 1) := by decide +kernel
theorem dX4_spread_17 : decode cX4_spread 17 = .ok (.iconst 0, 1) := by decide +kernel
theorem dX4_spread_18 : decode cX4_spread 18 = .ok (.istore_n 3, 1) := by decide +kernel
theorem dX4_spread_19 : decode cX4_spread 19 = .ok (.iload_n 3, 1) := by decide +kernel
theorem dX4_spread_20 : decode cX4_spread 20 = .ok (.aload_n 0, 1) := by decide +kernel
theorem dX4_spread_21 : decode cX4_spread 21 = .ok (.getfield 25, 3) := by decide +kernel
theorem dX4_spread_24 : decode cX4_spread 24 = .ok (.getfield 92, 3) := by decide +kernel
theorem dX4_spread_27 : decode cX4_spread 27 = .ok (.if_icmp .ge 120, 3) := by decide +kernel
theorem dX4_spread_30 : decode cX4_spread 30 = .ok (.iload_n 2, 1) := by decide +kernel
theorem dX4_spread_31 : decode cX4_spread 31 = .ok (.iload_n 3, 1) := by decide +kernel
theorem dX4_spread_32 : decode cX4_spread 32 = .ok (.ishr, 1) := by decide +kernel
theorem dX4_spread_33 : decode cX4_spread 33 = .ok (.iconst 1, 1) := by decide +kernel
theorem dX4_spread_34 : decode cX4_spread 34 = .ok (.iand, 1) := by decide +kernel
theorem dX4_spread_35 : decode cX4_spread 35 = .ok (.ifCond .ne 6, 3) := by decide +kernel
theorem dX4_spread_38 : decode cX4_spread 38 = .ok (.goto 103, 3) := by decide +kernel
theorem dX4_spread_41 : decode cX4_spread 41 = .ok (.aload_n 0, 1) := by decide +kernel
theorem dX4_spread_42 : decode cX4_spread 42 = .ok (.getfield 25, 3) := by decide +kernel
theorem dX4_spread_45 : decode cX4_spread 45 = .ok (.aload_n 0, 1) := by decide +kernel
theorem dX4_spread_46 : decode cX4_spread 46 = .ok (.getfield 22, 3) := by decide +kernel
theorem dX4_spread_49 : decode cX4_spread 49 = .ok (.iload_n 3, 1) := by decide +kernel
theorem dX4_spread_50 : decode cX4_spread 50 = .ok (.invokevirtual 95, 3) := by decide +kernel
theorem dX4_spread_53 : decode cX4_spread 53 = .ok (.istore 4, 2) := by decide +kernel
theorem dX4_spread_55 : decode cX4_spread 55 = .ok (.aload_n 0, 1) := by decide +kernel
theorem dX4_spread_56 : decode cX4_spread 56 = .ok (.iload_n 1, 1) := by decide +kernel
theorem dX4_spread_57 : decode cX4_spread 57 = .ok (.invokevirtual 75, 3) := by decide +kernel
theorem dX4_spread_60 : decode cX4_spread 60 = .ok (.iconst 1, 1) := by decide +kernel
theorem dX4_spread_61 : decode cX4_spread 61 = .ok (.iadd, 1) := by decide +kernel
theorem dX4_spread_62 : decode cX4_spread 62 = .ok (.aload_n 0, 1) := by decide +kernel
theorem dX4_spread_63 : decode cX4_spread 63 = .ok (.getfield 47, 3) := by decide +kernel
theorem dX4_spread_66 : decode cX4_spread 66 = .ok (.imul, 1) := by decide +kernel
theorem dX4_spread_67 : decode cX4_spread 67 = .ok (.aload_n 0, 1) := by decide +kernel
theorem dX4_spread_68 : decode cX4_spread 68 = .ok (.getfield 25, 3) := by decide +kernel
theorem dX4_spread_71 : decode cX4_spread 71 = .ok (.aload_n 0, 1) := by decide +kernel
theorem dX4_spread_72 : decode cX4_spread 72 = .ok (.getfield 22, 3) := by decide +kernel
theorem dX4_spread_75 : decode cX4_spread 75 = .ok (.getfield 57, 3) := by decide +kernel
theorem dX4_spread_78 : decode cX4_spread 78 = .ok (.iload_n 3, 1) := by decide +kernel
theorem dX4_spread_79 : decode cX4_spread 79 = .ok (.invokevirtual 99, 3) := by decide +kernel
theorem dX4_spread_82 : decode cX4_spread 82 = .ok (.iadd, 1) := by decide +kernel
theorem dX4_spread_83 : decode cX4_spread 83 = .ok (.istore 5, 2) := by decide +kernel
theorem dX4_spread_85 : decode cX4_spread 85 = .ok (.iload 4, 2) := by decide +kernel
theorem dX4_spread_87 : decode cX4_spread 87 = .ok (.aload_n 0, 1) := by decide +kernel
theorem dX4_spread_88 : decode cX4_spread 88 = .ok (.getfield 25, 3) := by decide +kernel
theorem dX4_spread_91 : decode cX4_spread 91 = .ok (.getfield 103, 3) := by decide +kernel
theorem dX4_spread_94 : decode cX4_spread 94 = .ok (.if_icmp .gt 47, 3) := by decide +kernel
theorem dX4_spread_97 : decode cX4_spread 97 = .ok (.iload 5, 2) := by decide +kernel
theorem dX4_spread_99 : decode cX4_spread 99 = .ok (.aload_n 0, 1) := by decide +kernel
theorem dX4_spread_100 : decode cX4_spread 100 = .ok (.getfield 9, 3) := by decide +kernel
theorem dX4_spread_103 : decode cX4_spread 103 = .ok (.arraylength, 1) := by decide +kernel
theorem dX4_spread_104 : decode cX4_spread 104 = .ok (.if_icmp .ge 37, 3) := by decide +kernel
theorem dX4_spread_107 : decode cX4_spread 107 = .ok (.aload_n 0, 1) := by decide +kernel
theorem dX4_spread_108 : decode cX4_spread 108 = .ok (.getfield 9, 3) := by decide +kernel
theorem dX4_spread_111 : decode cX4_spread 111 = .ok (.iload 5, 2) := by decide +kernel
theorem dX4_spread_113 : decode cX4_spread 113 = .ok (.aload_n 0, 1) := by decide +kernel
theorem dX4_spread_114 : decode cX4_spread 114 = .ok (.getfield 9, 3) := by decide +kernel
theorem dX4_spread_117 : decode cX4_spread 117 = .ok (.iload 5, 2) := by decide +kernel
theorem dX4_spread_119 : decode cX4_spread 119 = .ok (.iaload, 1) := by decide +kernel
theorem dX4_spread_120 : decode cX4_spread 120 = .ok (.iload 4, 2) := by decide +kernel
theorem dX4_spread_122 : decode cX4_spread 122 = .ok (.bipush 14, 2) := by decide +kernel
theorem dX4_spread_124 : decode cX4_spread 124 = .ok (.ishl, 1) := by decide +kernel
theorem dX4_spread_125 : decode cX4_spread 125 = .ok (.aload_n 0, 1) := by decide +kernel
theorem dX4_spread_126 : decode cX4_spread 126 = .ok (.getfield 22, 3) := by decide +kernel
theorem dX4_spread_129 : decode cX4_spread 129 = .ok (.getfield 57, 3) := by decide +kernel
theorem dX4_spread_132 : decode cX4_spread 132 = .ok (.iconst 4, 1) := by decide +kernel
theorem dX4_spread_133 : decode cX4_spread 133 = .ok (.ishl, 1) := by decide +kernel
theorem dX4_spread_134 : decode cX4_spread 134 = .ok (.ior, 1) := by decide +kernel
theorem dX4_spread_135 : decode cX4_spread 135 = .ok (.iload_n 3, 1) := by decide +kernel
theorem dX4_spread_136 : decode cX4_spread 136 = .ok (.ior, 1) := by decide +kernel
theorem dX4_spread_137 : decode cX4_spread 137 = .ok (.invokestatic 106, 3) := by decide +kernel
theorem dX4_spread_140 : decode cX4_spread 140 = .ok (.iastore, 1) := by decide +kernel
theorem dX4_spread_141 : decode cX4_spread 141 = .ok (.iinc 3 1, 3) := by decide +kernel
theorem dX4_spread_144 : decode cX4_spread 144 = .ok (.goto (-125), 3) := by decide +kernel
theorem dX4_spread_147 : decode cX4_spread 147 = .ok (.return_, 1) := by decide +kernel
theorem dX4_wishesOf_0 : decode cX4_wishesOf 0 = .ok (.aload_n 0, 1) := by decide +kernel
theorem dX4_wishesOf_1 : decode cX4_wishesOf 1 = .ok (.getfield 47, 3) := by decide +kernel
theorem dX4_wishesOf_4 : decode cX4_wishesOf 4 = .ok (.ifCond .le 12, 3) := by decide +kernel
theorem dX4_wishesOf_7 : decode cX4_wishesOf 7 = .ok (.iload_n 1, 1) := by decide +kernel
theorem dX4_wishesOf_8 : decode cX4_wishesOf 8 = .ok (.aload_n 0, 1) := by decide +kernel
theorem dX4_wishesOf_9 : decode cX4_wishesOf 9 = .ok (.getfield 47, 3) := by decide +kernel
theorem dX4_wishesOf_12 : decode cX4_wishesOf 12 = .ok (.idiv, 1) := by decide +kernel
theorem dX4_wishesOf_13 : decode cX4_wishesOf 13 = .ok (.goto 4, 3) := by decide +kernel
theorem dX4_wishesOf_16 : decode cX4_wishesOf 16 = .ok (.iconst 0, 1) := by decide +kernel
theorem dX4_wishesOf_17 : decode cX4_wishesOf 17 = .ok (.ireturn, 1) := by decide +kernel
theorem dX4_setOf_0 : decode cX4_setOf 0 = .ok (.aload_n 0, 1) := by decide +kernel
theorem dX4_setOf_1 : decode cX4_setOf 1 = .ok (.getfield 47, 3) := by decide +kernel
theorem dX4_setOf_4 : decode cX4_setOf 4 = .ok (.ifCond .le 12, 3) := by decide +kernel
theorem dX4_setOf_7 : decode cX4_setOf 7 = .ok (.iload_n 1, 1) := by decide +kernel
theorem dX4_setOf_8 : decode cX4_setOf 8 = .ok (.aload_n 0, 1) := by decide +kernel
theorem dX4_setOf_9 : decode cX4_setOf 9 = .ok (.getfield 47, 3) := by decide +kernel
theorem dX4_setOf_12 : decode cX4_setOf 12 = .ok (.irem, 1) := by decide +kernel
theorem dX4_setOf_13 : decode cX4_setOf 13 = .ok (.goto 4, 3) := by decide +kernel
theorem dX4_setOf_16 : decode cX4_setOf 16 = .ok (.iconst 0, 1) := by decide +kernel
theorem dX4_setOf_17 : decode cX4_setOf 17 = .ok (.ireturn, 1) := by decide +kernel
theorem dX4_seaOf_0 : decode cX4_seaOf 0 = .ok (.iload_n 1, 1) := by decide +kernel
theorem dX4_seaOf_1 : decode cX4_seaOf 1 = .ok (.ifCond .lt 24, 3) := by decide +kernel
theorem dX4_seaOf_4 : decode cX4_seaOf 4 = .ok (.iload_n 1, 1) := by decide +kernel
theorem dX4_seaOf_5 : decode cX4_seaOf 5 = .ok (.aload_n 0, 1) := by decide +kernel
theorem dX4_seaOf_6 : decode cX4_seaOf 6 = .ok (.getfield 9, 3) := by decide +kernel
theorem dX4_seaOf_9 : decode cX4_seaOf 9 = .ok (.arraylength, 1) := by decide +kernel
theorem dX4_seaOf_10 : decode cX4_seaOf 10 = .ok (.if_icmp .ge 15, 3) := by decide +kernel
theorem dX4_seaOf_13 : decode cX4_seaOf 13 = .ok (.aload_n 0, 1) := by decide +kernel
theorem dX4_seaOf_14 : decode cX4_seaOf 14 = .ok (.getfield 9, 3) := by decide +kernel
theorem dX4_seaOf_17 : decode cX4_seaOf 17 = .ok (.iload_n 1, 1) := by decide +kernel
theorem dX4_seaOf_18 : decode cX4_seaOf 18 = .ok (.iaload, 1) := by decide +kernel
theorem dX4_seaOf_19 : decode cX4_seaOf 19 = .ok (.bipush 14, 2) := by decide +kernel
theorem dX4_seaOf_21 : decode cX4_seaOf 21 = .ok (.ishr, 1) := by decide +kernel
theorem dX4_seaOf_22 : decode cX4_seaOf 22 = .ok (.goto 4, 3) := by decide +kernel
theorem dX4_seaOf_25 : decode cX4_seaOf 25 = .ok (.iconst 0, 1) := by decide +kernel
theorem dX4_seaOf_26 : decode cX4_seaOf 26 = .ok (.ireturn, 1) := by decide +kernel
theorem dX4_count_0 : decode cX4_count 0 = .ok (.iconst 0, 1) := by decide +kernel
theorem dX4_count_1 : decode cX4_count 1 = .ok (.istore_n 2, 1) := by decide +kernel
theorem dX4_count_2 : decode cX4_count 2 = .ok (.iload_n 1, 1) := by decide +kernel
theorem dX4_count_3 : decode cX4_count 3 = .ok (.aload_n 0, 1) := by decide +kernel
theorem dX4_count_4 : decode cX4_count 4 = .ok (.getfield 47, 3) := by decide +kernel
theorem dX4_count_7 : decode cX4_count 7 = .ok (.imul, 1) := by decide +kernel
theorem dX4_count_8 : decode cX4_count 8 = .ok (.istore_n 3, 1) := by decide +kernel
theorem dX4_count_9 : decode cX4_count 9 = .ok (.iload_n 3, 1) := by decide +kernel
theorem dX4_count_10 : decode cX4_count 10 = .ok (.iload_n 1, 1) := by decide +kernel
theorem dX4_count_11 : decode cX4_count 11 = .ok (.iconst 1, 1) := by decide +kernel
theorem dX4_count_12 : decode cX4_count 12 = .ok (.iadd, 1) := by decide +kernel
theorem dX4_count_13 : decode cX4_count 13 = .ok (.aload_n 0, 1) := by decide +kernel
theorem dX4_count_14 : decode cX4_count 14 = .ok (.getfield 47, 3) := by decide +kernel
theorem dX4_count_17 : decode cX4_count 17 = .ok (.imul, 1) := by decide +kernel
theorem dX4_count_18 : decode cX4_count 18 = .ok (.if_icmp .ge 32, 3) := by decide +kernel
theorem dX4_count_21 : decode cX4_count 21 = .ok (.iload_n 3, 1) := by decide +kernel
theorem dX4_count_22 : decode cX4_count 22 = .ok (.aload_n 0, 1) := by decide +kernel
theorem dX4_count_23 : decode cX4_count 23 = .ok (.getfield 9, 3) := by decide +kernel
theorem dX4_count_26 : decode cX4_count 26 = .ok (.arraylength, 1) := by decide +kernel
theorem dX4_count_27 : decode cX4_count 27 = .ok (.if_icmp .ge 23, 3) := by decide +kernel
theorem dX4_count_30 : decode cX4_count 30 = .ok (.aload_n 0, 1) := by decide +kernel
theorem dX4_count_31 : decode cX4_count 31 = .ok (.getfield 9, 3) := by decide +kernel
theorem dX4_count_34 : decode cX4_count 34 = .ok (.iload_n 3, 1) := by decide +kernel
theorem dX4_count_35 : decode cX4_count 35 = .ok (.iaload, 1) := by decide +kernel
theorem dX4_count_36 : decode cX4_count 36 = .ok (.ldc 50, 2) := by decide +kernel
theorem dX4_count_38 : decode cX4_count 38 = .ok (.if_icmp .eq 6, 3) := by decide +kernel
theorem dX4_count_41 : decode cX4_count 41 = .ok (.iinc 2 1, 3) := by decide +kernel
theorem dX4_count_44 : decode cX4_count 44 = .ok (.iinc 3 1, 3) := by decide +kernel
theorem dX4_count_47 : decode cX4_count 47 = .ok (.goto (-38), 3) := by decide +kernel
theorem dX4_count_50 : decode cX4_count 50 = .ok (.iload_n 2, 1) := by decide +kernel
theorem dX4_count_51 : decode cX4_count 51 = .ok (.ireturn, 1) := by decide +kernel
set_option maxRecDepth 20000 in
theorem ggX4_better_X4_seaOf : GoodIn wsX4_better wsX4_seaOf := goodIn_r _ [5, 6, 7, 8, 9, 10, 11, 12] rfl (by decide +kernel)
set_option maxRecDepth 20000 in
theorem gX4_better_X4_seaOf : GoodIn wsX4_better (wsV RX4 69 RX4 yX4_seaOf wsX4_seaOf) := goodIn_app (goodIn_of _ (by decide +kernel)) ggX4_better_X4_seaOf
theorem dX4_better_0 : decode cX4_better 0 = .ok (.iload_n 1, 1) := by decide +kernel
theorem dX4_better_1 : decode cX4_better 1 = .ok (.ifCond .lt 16, 3) := by decide +kernel
theorem dX4_better_4 : decode cX4_better 4 = .ok (.aload_n 0, 1) := by decide +kernel
theorem dX4_better_5 : decode cX4_better 5 = .ok (.iload_n 2, 1) := by decide +kernel
theorem dX4_better_6 : decode cX4_better 6 = .ok (.invokevirtual 69, 3) := by decide +kernel
theorem dX4_better_9 : decode cX4_better 9 = .ok (.aload_n 0, 1) := by decide +kernel
theorem dX4_better_10 : decode cX4_better 10 = .ok (.iload_n 1, 1) := by decide +kernel
theorem dX4_better_11 : decode cX4_better 11 = .ok (.invokevirtual 69, 3) := by decide +kernel
theorem dX4_better_14 : decode cX4_better 14 = .ok (.if_icmp .ge 7, 3) := by decide +kernel
theorem dX4_better_17 : decode cX4_better 17 = .ok (.iload_n 2, 1) := by decide +kernel
theorem dX4_better_18 : decode cX4_better 18 = .ok (.goto 4, 3) := by decide +kernel
theorem dX4_better_21 : decode cX4_better 21 = .ok (.iload_n 1, 1) := by decide +kernel
theorem dX4_better_22 : decode cX4_better 22 = .ok (.ireturn, 1) := by decide +kernel
set_option maxRecDepth 20000 in
theorem ggX4_fewestWith_X4_better : GoodIn wsX4_fewestWith wsX4_better := goodIn_r _ [8, 9, 10, 11, 7, 12, 2, 13, 14, 15, 16, 17, 18] rfl (by decide +kernel)
set_option maxRecDepth 20000 in
theorem gX4_fewestWith_X4_better : GoodIn wsX4_fewestWith (wsV RX4 111 RX4 yX4_better wsX4_better) := goodIn_app (goodIn_of _ (by decide +kernel)) ggX4_fewestWith_X4_better
theorem dX4_fewestWith_0 : decode cX4_fewestWith 0 = .ok (.iconst 0, 1) := by decide +kernel
theorem dX4_fewestWith_1 : decode cX4_fewestWith 1 = .ok (.istore_n 2, 1) := by decide +kernel
theorem dX4_fewestWith_2 : decode cX4_fewestWith 2 = .ok (.iload_n 2, 1) := by decide +kernel
theorem dX4_fewestWith_3 : decode cX4_fewestWith 3 = .ok (.bipush 8, 2) := by decide +kernel
theorem dX4_fewestWith_5 : decode cX4_fewestWith 5 = .ok (.if_icmp .gt 74, 3) := by decide +kernel
theorem dX4_fewestWith_8 : decode cX4_fewestWith 8 = .ok (.iconst (-1), 1) := by decide +kernel
theorem dX4_fewestWith_9 : decode cX4_fewestWith 9 = .ok (.istore_n 3, 1) := by decide +kernel
theorem dX4_fewestWith_10 : decode cX4_fewestWith 10 = .ok (.iconst 0, 1) := by decide +kernel
theorem dX4_fewestWith_11 : decode cX4_fewestWith 11 = .ok (.istore 4, 2) := by decide +kernel
theorem dX4_fewestWith_13 : decode cX4_fewestWith 13 = .ok (.iload 4, 2) := by decide +kernel
theorem dX4_fewestWith_15 : decode cX4_fewestWith 15 = .ok (.aload_n 0, 1) := by decide +kernel
theorem dX4_fewestWith_16 : decode cX4_fewestWith 16 = .ok (.getfield 47, 3) := by decide +kernel
theorem dX4_fewestWith_19 : decode cX4_fewestWith 19 = .ok (.if_icmp .ge 48, 3) := by decide +kernel
theorem dX4_fewestWith_22 : decode cX4_fewestWith 22 = .ok (.iload_n 2, 1) := by decide +kernel
theorem dX4_fewestWith_23 : decode cX4_fewestWith 23 = .ok (.aload_n 0, 1) := by decide +kernel
theorem dX4_fewestWith_24 : decode cX4_fewestWith 24 = .ok (.getfield 47, 3) := by decide +kernel
theorem dX4_fewestWith_27 : decode cX4_fewestWith 27 = .ok (.imul, 1) := by decide +kernel
theorem dX4_fewestWith_28 : decode cX4_fewestWith 28 = .ok (.iload 4, 2) := by decide +kernel
theorem dX4_fewestWith_30 : decode cX4_fewestWith 30 = .ok (.iadd, 1) := by decide +kernel
theorem dX4_fewestWith_31 : decode cX4_fewestWith 31 = .ok (.istore 5, 2) := by decide +kernel
theorem dX4_fewestWith_33 : decode cX4_fewestWith 33 = .ok (.aload_n 0, 1) := by decide +kernel
theorem dX4_fewestWith_34 : decode cX4_fewestWith 34 = .ok (.getfield 9, 3) := by decide +kernel
theorem dX4_fewestWith_37 : decode cX4_fewestWith 37 = .ok (.iload 5, 2) := by decide +kernel
theorem dX4_fewestWith_39 : decode cX4_fewestWith 39 = .ok (.iaload, 1) := by decide +kernel
theorem dX4_fewestWith_40 : decode cX4_fewestWith 40 = .ok (.ldc 50, 2) := by decide +kernel
theorem dX4_fewestWith_42 : decode cX4_fewestWith 42 = .ok (.if_icmp .eq 19, 3) := by decide +kernel
theorem dX4_fewestWith_45 : decode cX4_fewestWith 45 = .ok (.iload 4, 2) := by decide +kernel
theorem dX4_fewestWith_47 : decode cX4_fewestWith 47 = .ok (.iload_n 1, 1) := by decide +kernel
theorem dX4_fewestWith_48 : decode cX4_fewestWith 48 = .ok (.iand, 1) := by decide +kernel
theorem dX4_fewestWith_49 : decode cX4_fewestWith 49 = .ok (.iload_n 1, 1) := by decide +kernel
theorem dX4_fewestWith_50 : decode cX4_fewestWith 50 = .ok (.if_icmp .ne 11, 3) := by decide +kernel
theorem dX4_fewestWith_53 : decode cX4_fewestWith 53 = .ok (.aload_n 0, 1) := by decide +kernel
theorem dX4_fewestWith_54 : decode cX4_fewestWith 54 = .ok (.iload_n 3, 1) := by decide +kernel
theorem dX4_fewestWith_55 : decode cX4_fewestWith 55 = .ok (.iload 5, 2) := by decide +kernel
theorem dX4_fewestWith_57 : decode cX4_fewestWith 57 = .ok (.invokevirtual 111, 3) := by decide +kernel
theorem dX4_fewestWith_60 : decode cX4_fewestWith 60 = .ok (.istore_n 3, 1) := by decide +kernel
theorem dX4_fewestWith_61 : decode cX4_fewestWith 61 = .ok (.iinc 4 1, 3) := by decide +kernel
theorem dX4_fewestWith_64 : decode cX4_fewestWith 64 = .ok (.goto (-51), 3) := by decide +kernel
theorem dX4_fewestWith_67 : decode cX4_fewestWith 67 = .ok (.iload_n 3, 1) := by decide +kernel
theorem dX4_fewestWith_68 : decode cX4_fewestWith 68 = .ok (.ifCond .lt 5, 3) := by decide +kernel
theorem dX4_fewestWith_71 : decode cX4_fewestWith 71 = .ok (.iload_n 3, 1) := by decide +kernel
theorem dX4_fewestWith_72 : decode cX4_fewestWith 72 = .ok (.ireturn, 1) := by decide +kernel
theorem dX4_fewestWith_73 : decode cX4_fewestWith 73 = .ok (.iinc 2 1, 3) := by decide +kernel
theorem dX4_fewestWith_76 : decode cX4_fewestWith 76 = .ok (.goto (-74), 3) := by decide +kernel
theorem dX4_fewestWith_79 : decode cX4_fewestWith 79 = .ok (.iconst (-1), 1) := by decide +kernel
theorem dX4_fewestWith_80 : decode cX4_fewestWith 80 = .ok (.ireturn, 1) := by decide +kernel
set_option maxRecDepth 20000 in
theorem ggX4_fewestContent_X4_isContentAt : GoodIn wsX4_fewestContent wsX4_isContentAt := goodIn_r _ [8, 9, 10, 11, 12, 13, 7, 14, 15, 16, 17, 18, 19, 20, 21, 1, 22, 23, 24, 25, 2, 26, 27, 28, 29, 30, 31, 32, 33, 34, 35, 36, 37, 38, 39, 40, 41, 42, 43, 44, 45, 46, 47, 48, 49, 50, 51, 52, 53, 54, 55, 56, 57, 58, 59, 60, 61, 62, 63, 64, 65, 66, 67, 68, 69, 70, 71, 72, 73, 74, 75, 76, 77, 78, 79, 80, 81, 82, 83, 84, 85, 86, 87, 88, 89, 90, 91, 92, 93, 94, 95, 96, 97, 98, 99, 100, 101, 102, 103, 104, 105, 106, 107, 108, 109, 110, 111, 112, 113, 114, 115, 120, 121, 122, 123, 124, 125, 126, 127, 128, 129, 130, 131, 132, 133, 134, 135, 136, 137, 138, 139, 140, 141, 142, 143, 144, 145, 146, 147, 148, 149] rfl (by decide +kernel)
set_option maxRecDepth 20000 in
theorem gX4_fewestContent_X4_isContentAt : GoodIn wsX4_fewestContent (wsV RX4 114 RX4 yX4_isContentAt wsX4_isContentAt) := goodIn_app (goodIn_of _ (by decide +kernel)) ggX4_fewestContent_X4_isContentAt
set_option maxRecDepth 20000 in
theorem ggX4_fewestContent_X4_better : GoodIn wsX4_fewestContent wsX4_better := goodIn_r _ [119, 22, 23, 24, 7, 25, 2, 120, 121, 122, 123, 124, 125] rfl (by decide +kernel)
set_option maxRecDepth 20000 in
theorem gX4_fewestContent_X4_better : GoodIn wsX4_fewestContent (wsV RX4 111 RX4 yX4_better wsX4_better) := goodIn_app (goodIn_of _ (by decide +kernel)) ggX4_fewestContent_X4_better
theorem dX4_fewestContent_0 : decode cX4_fewestContent 0 = .ok (.iconst 0, 1) := by decide +kernel
theorem dX4_fewestContent_1 : decode cX4_fewestContent 1 = .ok (.istore_n 1, 1) := by decide +kernel
theorem dX4_fewestContent_2 : decode cX4_fewestContent 2 = .ok (.iload_n 1, 1) := by decide +kernel
theorem dX4_fewestContent_3 : decode cX4_fewestContent 3 = .ok (.bipush 8, 2) := by decide +kernel
theorem dX4_fewestContent_5 : decode cX4_fewestContent 5 = .ok (.if_icmp .gt 72, 3) := by decide +kernel
theorem dX4_fewestContent_8 : decode cX4_fewestContent 8 = .ok (.iconst (-1), 1) := by decide +kernel
theorem dX4_fewestContent_9 : decode cX4_fewestContent 9 = .ok (.istore_n 2, 1) := by decide +kernel
theorem dX4_fewestContent_10 : decode cX4_fewestContent 10 = .ok (.iconst 0, 1) := by decide +kernel
theorem dX4_fewestContent_11 : decode cX4_fewestContent 11 = .ok (.istore_n 3, 1) := by decide +kernel
theorem dX4_fewestContent_12 : decode cX4_fewestContent 12 = .ok (.iload_n 3, 1) := by decide +kernel
theorem dX4_fewestContent_13 : decode cX4_fewestContent 13 = .ok (.aload_n 0, 1) := by decide +kernel
theorem dX4_fewestContent_14 : decode cX4_fewestContent 14 = .ok (.getfield 47, 3) := by decide +kernel
theorem dX4_fewestContent_17 : decode cX4_fewestContent 17 = .ok (.if_icmp .ge 48, 3) := by decide +kernel
theorem dX4_fewestContent_20 : decode cX4_fewestContent 20 = .ok (.iload_n 1, 1) := by decide +kernel
theorem dX4_fewestContent_21 : decode cX4_fewestContent 21 = .ok (.aload_n 0, 1) := by decide +kernel
theorem dX4_fewestContent_22 : decode cX4_fewestContent 22 = .ok (.getfield 47, 3) := by decide +kernel
theorem dX4_fewestContent_25 : decode cX4_fewestContent 25 = .ok (.imul, 1) := by decide +kernel
theorem dX4_fewestContent_26 : decode cX4_fewestContent 26 = .ok (.iload_n 3, 1) := by decide +kernel
theorem dX4_fewestContent_27 : decode cX4_fewestContent 27 = .ok (.iadd, 1) := by decide +kernel
theorem dX4_fewestContent_28 : decode cX4_fewestContent 28 = .ok (.istore 4, 2) := by decide +kernel
theorem dX4_fewestContent_30 : decode cX4_fewestContent 30 = .ok (.aload_n 0, 1) := by decide +kernel
theorem dX4_fewestContent_31 : decode cX4_fewestContent 31 = .ok (.getfield 9, 3) := by decide +kernel
theorem dX4_fewestContent_34 : decode cX4_fewestContent 34 = .ok (.iload 4, 2) := by decide +kernel
theorem dX4_fewestContent_36 : decode cX4_fewestContent 36 = .ok (.iaload, 1) := by decide +kernel
theorem dX4_fewestContent_37 : decode cX4_fewestContent 37 = .ok (.ldc 50, 2) := by decide +kernel
theorem dX4_fewestContent_39 : decode cX4_fewestContent 39 = .ok (.if_icmp .eq 20, 3) := by decide +kernel
theorem dX4_fewestContent_42 : decode cX4_fewestContent 42 = .ok (.aload_n 0, 1) := by decide +kernel
theorem dX4_fewestContent_43 : decode cX4_fewestContent 43 = .ok (.iload 4, 2) := by decide +kernel
theorem dX4_fewestContent_45 : decode cX4_fewestContent 45 = .ok (.invokevirtual 114, 3) := by decide +kernel
theorem dX4_fewestContent_48 : decode cX4_fewestContent 48 = .ok (.ifCond .eq 11, 3) := by decide +kernel
theorem dX4_fewestContent_51 : decode cX4_fewestContent 51 = .ok (.aload_n 0, 1) := by decide +kernel
theorem dX4_fewestContent_52 : decode cX4_fewestContent 52 = .ok (.iload_n 2, 1) := by decide +kernel
theorem dX4_fewestContent_53 : decode cX4_fewestContent 53 = .ok (.iload 4, 2) := by decide +kernel
theorem dX4_fewestContent_55 : decode cX4_fewestContent 55 = .ok (.invokevirtual 111, 3) := by decide +kernel
theorem dX4_fewestContent_58 : decode cX4_fewestContent 58 = .ok (.istore_n 2, 1) := by decide +kernel
theorem dX4_fewestContent_59 : decode cX4_fewestContent 59 = .ok (.iinc 3 1, 3) := by decide +kernel
theorem dX4_fewestContent_62 : decode cX4_fewestContent 62 = .ok (.goto (-50), 3) := by decide +kernel
theorem dX4_fewestContent_65 : decode cX4_fewestContent 65 = .ok (.iload_n 2, 1) := by decide +kernel
theorem dX4_fewestContent_66 : decode cX4_fewestContent 66 = .ok (.ifCond .lt 5, 3) := by decide +kernel
theorem dX4_fewestContent_69 : decode cX4_fewestContent 69 = .ok (.iload_n 2, 1) := by decide +kernel
theorem dX4_fewestContent_70 : decode cX4_fewestContent 70 = .ok (.ireturn, 1) := by decide +kernel
theorem dX4_fewestContent_71 : decode cX4_fewestContent 71 = .ok (.iinc 1 1, 3) := by decide +kernel
theorem dX4_fewestContent_74 : decode cX4_fewestContent 74 = .ok (.goto (-72), 3) := by decide +kernel
theorem dX4_fewestContent_77 : decode cX4_fewestContent 77 = .ok (.iconst (-1), 1) := by decide +kernel
theorem dX4_fewestContent_78 : decode cX4_fewestContent 78 = .ok (.ireturn, 1) := by decide +kernel
set_option maxRecDepth 20000 in
theorem ggX4_isContentAt_X4_stand : GoodIn wsX4_isContentAt wsX4_stand := goodIn_r _ [7, 2, 8, 9, 10, 11, 12, 13, 6, 14, 15, 16, 17, 18, 19, 20, 21, 22, 23, 24, 25, 26, 27, 28, 29, 30, 31, 32, 33, 111, 112, 113, 114, 115, 116, 117, 118, 119, 120] rfl (by decide +kernel)
set_option maxRecDepth 20000 in
theorem gX4_isContentAt_X4_stand : GoodIn wsX4_isContentAt (wsV RX4 85 RX4 yX4_stand wsX4_stand) := goodIn_app (goodIn_of _ (by decide +kernel)) ggX4_isContentAt_X4_stand
set_option maxRecDepth 20000 in
theorem ggX4_isContentAt_X5_isContent : GoodIn wsX4_isContentAt wsX5_isContent := goodIn_r _ [38, 39, 40, 41, 37, 42, 43, 44, 45, 46, 47, 48, 49, 50, 51, 52, 53, 54, 55, 56, 57, 58, 59, 60, 61, 62, 63, 64, 65, 66, 67, 68, 69, 70, 71, 72, 73, 74, 75, 76, 77, 78, 79, 80, 81, 82, 83, 84, 85, 86, 87, 88, 89, 90, 91, 92, 93, 94, 95, 96, 97, 98, 99, 100, 101, 102, 103, 104, 105, 106, 107, 108, 109, 110, 121, 122, 123, 124, 125, 126, 127, 128, 129, 130, 131, 132, 133, 134, 135, 136, 137, 138, 139, 140, 117, 118, 119, 120] rfl (by decide +kernel)
set_option maxRecDepth 20000 in
theorem gX4_isContentAt_X5_isContent : GoodIn wsX4_isContentAt (wsV RX4 118 RX5 yX5_isContent wsX5_isContent) := goodIn_app (goodIn_of _ (by decide +kernel)) ggX4_isContentAt_X5_isContent
theorem dX4_isContentAt_0 : decode cX4_isContentAt 0 = .ok (.aload_n 0, 1) := by decide +kernel
theorem dX4_isContentAt_1 : decode cX4_isContentAt 1 = .ok (.iload_n 1, 1) := by decide +kernel
theorem dX4_isContentAt_2 : decode cX4_isContentAt 2 = .ok (.invokevirtual 85, 3) := by decide +kernel
theorem dX4_isContentAt_5 : decode cX4_isContentAt 5 = .ok (.aload_n 0, 1) := by decide +kernel
theorem dX4_isContentAt_6 : decode cX4_isContentAt 6 = .ok (.getfield 25, 3) := by decide +kernel
theorem dX4_isContentAt_9 : decode cX4_isContentAt 9 = .ok (.aload_n 0, 1) := by decide +kernel
theorem dX4_isContentAt_10 : decode cX4_isContentAt 10 = .ok (.getfield 22, 3) := by decide +kernel
theorem dX4_isContentAt_13 : decode cX4_isContentAt 13 = .ok (.invokevirtual 118, 3) := by decide +kernel
theorem dX4_isContentAt_16 : decode cX4_isContentAt 16 = .ok (.ireturn, 1) := by decide +kernel
set_option maxRecDepth 20000 in
theorem ggX4_mostBy_X4_setOf : GoodIn wsX4_mostBy wsX4_setOf := goodIn_r _ [9, 1, 30, 31, 32, 33, 34, 35] rfl (by decide +kernel)
set_option maxRecDepth 20000 in
theorem gX4_mostBy_X4_setOf : GoodIn wsX4_mostBy (wsV RX4 65 RX4 yX4_setOf wsX4_setOf) := goodIn_app (goodIn_of _ (by decide +kernel)) ggX4_mostBy_X4_setOf
set_option maxRecDepth 20000 in
theorem ggX4_mostBy_X5_lastingWorthOf : GoodIn wsX4_mostBy wsX5_lastingWorthOf := goodIn_r _ [14, 15, 16, 17, 18, 13, 19, 20, 21, 36, 37, 38, 39, 40, 41, 42, 43, 44, 45, 46, 47, 48, 49, 50, 51, 52, 53, 54, 55] rfl (by decide +kernel)
set_option maxRecDepth 20000 in
theorem gX4_mostBy_X5_lastingWorthOf : GoodIn wsX4_mostBy (wsV RX4 121 RX5 yX5_lastingWorthOf wsX5_lastingWorthOf) := goodIn_app (goodIn_of _ (by decide +kernel)) ggX4_mostBy_X5_lastingWorthOf
set_option maxRecDepth 20000 in
theorem ggX4_mostBy_X4_wishesOf : GoodIn wsX4_mostBy wsX4_wishesOf := goodIn_r _ [25, 1, 30, 31, 32, 33, 34, 35] rfl (by decide +kernel)
set_option maxRecDepth 20000 in
theorem gX4_mostBy_X4_wishesOf : GoodIn wsX4_mostBy (wsV RX4 75 RX4 yX4_wishesOf wsX4_wishesOf) := goodIn_app (goodIn_of _ (by decide +kernel)) ggX4_mostBy_X4_wishesOf
set_option maxRecDepth 20000 in
theorem ggX4_mostBy_X4_seaOf : GoodIn wsX4_mostBy wsX4_seaOf := goodIn_r _ [29, 2, 30, 31, 32, 33, 34, 35] rfl (by decide +kernel)
set_option maxRecDepth 20000 in
theorem gX4_mostBy_X4_seaOf : GoodIn wsX4_mostBy (wsV RX4 69 RX4 yX4_seaOf wsX4_seaOf) := goodIn_app (goodIn_of _ (by decide +kernel)) ggX4_mostBy_X4_seaOf
theorem dX4_mostBy_0 : decode cX4_mostBy 0 = .ok (.iconst (-1), 1) := by decide +kernel
theorem dX4_mostBy_1 : decode cX4_mostBy 1 = .ok (.istore_n 2, 1) := by decide +kernel
theorem dX4_mostBy_2 : decode cX4_mostBy 2 = .ok (.iconst (-1), 1) := by decide +kernel
theorem dX4_mostBy_3 : decode cX4_mostBy 3 = .ok (.istore_n 3, 1) := by decide +kernel
theorem dX4_mostBy_4 : decode cX4_mostBy 4 = .ok (.iconst 0, 1) := by decide +kernel
theorem dX4_mostBy_5 : decode cX4_mostBy 5 = .ok (.istore 4, 2) := by decide +kernel
theorem dX4_mostBy_7 : decode cX4_mostBy 7 = .ok (.iload 4, 2) := by decide +kernel
theorem dX4_mostBy_9 : decode cX4_mostBy 9 = .ok (.iload_n 1, 1) := by decide +kernel
theorem dX4_mostBy_10 : decode cX4_mostBy 10 = .ok (.iconst 1, 1) := by decide +kernel
theorem dX4_mostBy_11 : decode cX4_mostBy 11 = .ok (.iadd, 1) := by decide +kernel
theorem dX4_mostBy_12 : decode cX4_mostBy 12 = .ok (.aload_n 0, 1) := by decide +kernel
theorem dX4_mostBy_13 : decode cX4_mostBy 13 = .ok (.getfield 47, 3) := by decide +kernel
theorem dX4_mostBy_16 : decode cX4_mostBy 16 = .ok (.imul, 1) := by decide +kernel
theorem dX4_mostBy_17 : decode cX4_mostBy 17 = .ok (.if_icmp .ge 107, 3) := by decide +kernel
theorem dX4_mostBy_20 : decode cX4_mostBy 20 = .ok (.iload 4, 2) := by decide +kernel
theorem dX4_mostBy_22 : decode cX4_mostBy 22 = .ok (.aload_n 0, 1) := by decide +kernel
theorem dX4_mostBy_23 : decode cX4_mostBy 23 = .ok (.getfield 9, 3) := by decide +kernel
theorem dX4_mostBy_26 : decode cX4_mostBy 26 = .ok (.arraylength, 1) := by decide +kernel
theorem dX4_mostBy_27 : decode cX4_mostBy 27 = .ok (.if_icmp .ge 97, 3) := by decide +kernel
theorem dX4_mostBy_30 : decode cX4_mostBy 30 = .ok (.aload_n 0, 1) := by decide +kernel
theorem dX4_mostBy_31 : decode cX4_mostBy 31 = .ok (.getfield 9, 3) := by decide +kernel
theorem dX4_mostBy_34 : decode cX4_mostBy 34 = .ok (.iload 4, 2) := by decide +kernel
theorem dX4_mostBy_36 : decode cX4_mostBy 36 = .ok (.iaload, 1) := by decide +kernel
theorem dX4_mostBy_37 : decode cX4_mostBy 37 = .ok (.ldc 50, 2) := by decide +kernel
theorem dX4_mostBy_39 : decode cX4_mostBy 39 = .ok (.if_icmp .ne 6, 3) := by decide +kernel
theorem dX4_mostBy_42 : decode cX4_mostBy 42 = .ok (.goto 76, 3) := by decide +kernel
theorem dX4_mostBy_45 : decode cX4_mostBy 45 = .ok (.aload_n 0, 1) := by decide +kernel
theorem dX4_mostBy_46 : decode cX4_mostBy 46 = .ok (.getfield 25, 3) := by decide +kernel
theorem dX4_mostBy_49 : decode cX4_mostBy 49 = .ok (.aload_n 0, 1) := by decide +kernel
theorem dX4_mostBy_50 : decode cX4_mostBy 50 = .ok (.iload 4, 2) := by decide +kernel
theorem dX4_mostBy_52 : decode cX4_mostBy 52 = .ok (.invokevirtual 65, 3) := by decide +kernel
theorem dX4_mostBy_55 : decode cX4_mostBy 55 = .ok (.invokevirtual 121, 3) := by decide +kernel
theorem dX4_mostBy_58 : decode cX4_mostBy 58 = .ok (.istore 5, 2) := by decide +kernel
theorem dX4_mostBy_60 : decode cX4_mostBy 60 = .ok (.iload 5, 2) := by decide +kernel
theorem dX4_mostBy_62 : decode cX4_mostBy 62 = .ok (.iload_n 3, 1) := by decide +kernel
theorem dX4_mostBy_63 : decode cX4_mostBy 63 = .ok (.if_icmp .ne 21, 3) := by decide +kernel
theorem dX4_mostBy_66 : decode cX4_mostBy 66 = .ok (.aload_n 0, 1) := by decide +kernel
theorem dX4_mostBy_67 : decode cX4_mostBy 67 = .ok (.iload 4, 2) := by decide +kernel
theorem dX4_mostBy_69 : decode cX4_mostBy 69 = .ok (.invokevirtual 75, 3) := by decide +kernel
theorem dX4_mostBy_72 : decode cX4_mostBy 72 = .ok (.aload_n 0, 1) := by decide +kernel
theorem dX4_mostBy_73 : decode cX4_mostBy 73 = .ok (.iload_n 2, 1) := by decide +kernel
theorem dX4_mostBy_74 : decode cX4_mostBy 74 = .ok (.invokevirtual 75, 3) := by decide +kernel
theorem dX4_mostBy_77 : decode cX4_mostBy 77 = .ok (.if_icmp .ne 7, 3) := by decide +kernel
theorem dX4_mostBy_80 : decode cX4_mostBy 80 = .ok (.iconst 1, 1) := by decide +kernel
theorem dX4_mostBy_81 : decode cX4_mostBy 81 = .ok (.goto 4, 3) := by decide +kernel
theorem dX4_mostBy_84 : decode cX4_mostBy 84 = .ok (.iconst 0, 1) := by decide +kernel
theorem dX4_mostBy_85 : decode cX4_mostBy 85 = .ok (.istore 6, 2) := by decide +kernel
theorem dX4_mostBy_87 : decode cX4_mostBy 87 = .ok (.iload 5, 2) := by decide +kernel
theorem dX4_mostBy_89 : decode cX4_mostBy 89 = .ok (.iload_n 3, 1) := by decide +kernel
theorem dX4_mostBy_90 : decode cX4_mostBy 90 = .ok (.if_icmp .gt 22, 3) := by decide +kernel
theorem dX4_mostBy_93 : decode cX4_mostBy 93 = .ok (.iload 6, 2) := by decide +kernel
theorem dX4_mostBy_95 : decode cX4_mostBy 95 = .ok (.ifCond .eq 23, 3) := by decide +kernel
theorem dX4_mostBy_98 : decode cX4_mostBy 98 = .ok (.aload_n 0, 1) := by decide +kernel
theorem dX4_mostBy_99 : decode cX4_mostBy 99 = .ok (.iload 4, 2) := by decide +kernel
theorem dX4_mostBy_101 : decode cX4_mostBy 101 = .ok (.invokevirtual 69, 3) := by decide +kernel
theorem dX4_mostBy_104 : decode cX4_mostBy 104 = .ok (.aload_n 0, 1) := by decide +kernel
theorem dX4_mostBy_105 : decode cX4_mostBy 105 = .ok (.iload_n 2, 1) := by decide +kernel
theorem dX4_mostBy_106 : decode cX4_mostBy 106 = .ok (.invokevirtual 69, 3) := by decide +kernel
theorem dX4_mostBy_109 : decode cX4_mostBy 109 = .ok (.if_icmp .ge 9, 3) := by decide +kernel
theorem dX4_mostBy_112 : decode cX4_mostBy 112 = .ok (.iload 4, 2) := by decide +kernel
theorem dX4_mostBy_114 : decode cX4_mostBy 114 = .ok (.istore_n 2, 1) := by decide +kernel
theorem dX4_mostBy_115 : decode cX4_mostBy 115 = .ok (.iload 5, 2) := by decide +kernel
theorem dX4_mostBy_117 : decode cX4_mostBy 117 = .ok (.istore_n 3, 1) := by decide +kernel
theorem dX4_mostBy_118 : decode cX4_mostBy 118 = .ok (.iinc 4 1, 3) := by decide +kernel
theorem dX4_mostBy_121 : decode cX4_mostBy 121 = .ok (.goto (-114), 3) := by decide +kernel
theorem dX4_mostBy_124 : decode cX4_mostBy 124 = .ok (.iload_n 2, 1) := by decide +kernel
theorem dX4_mostBy_125 : decode cX4_mostBy 125 = .ok (.ireturn, 1) := by decide +kernel
set_option maxRecDepth 20000 in
theorem ggX4_wishOnTheWay_X4_wishesOf : GoodIn wsX4_wishOnTheWay wsX4_wishesOf := goodIn_r _ [6, 1, 12, 13, 14, 15, 16, 17] rfl (by decide +kernel)
set_option maxRecDepth 20000 in
theorem gX4_wishOnTheWay_X4_wishesOf : GoodIn wsX4_wishOnTheWay (wsV RX4 75 RX4 yX4_wishesOf wsX4_wishesOf) := goodIn_app (goodIn_of _ (by decide +kernel)) ggX4_wishOnTheWay_X4_wishesOf
set_option maxRecDepth 20000 in
theorem ggX4_wishOnTheWay_X4_elementAt : GoodIn wsX4_wishOnTheWay wsX4_elementAt := goodIn_r _ [10, 11, 12, 13, 14, 15, 16, 17] rfl (by decide +kernel)
set_option maxRecDepth 20000 in
theorem gX4_wishOnTheWay_X4_elementAt : GoodIn wsX4_wishOnTheWay (wsV RX4 124 RX4 yX4_elementAt wsX4_elementAt) := goodIn_app (goodIn_of _ (by decide +kernel)) ggX4_wishOnTheWay_X4_elementAt
theorem dX4_wishOnTheWay_0 : decode cX4_wishOnTheWay 0 = .ok (.aload_n 0, 1) := by decide +kernel
theorem dX4_wishOnTheWay_1 : decode cX4_wishOnTheWay 1 = .ok (.iload_n 1, 1) := by decide +kernel
theorem dX4_wishOnTheWay_2 : decode cX4_wishOnTheWay 2 = .ok (.invokevirtual 75, 3) := by decide +kernel
theorem dX4_wishOnTheWay_5 : decode cX4_wishOnTheWay 5 = .ok (.istore_n 3, 1) := by decide +kernel
theorem dX4_wishOnTheWay_6 : decode cX4_wishOnTheWay 6 = .ok (.iload_n 2, 1) := by decide +kernel
theorem dX4_wishOnTheWay_7 : decode cX4_wishOnTheWay 7 = .ok (.ifCond .lt 8, 3) := by decide +kernel
theorem dX4_wishOnTheWay_10 : decode cX4_wishOnTheWay 10 = .ok (.iload_n 2, 1) := by decide +kernel
theorem dX4_wishOnTheWay_11 : decode cX4_wishOnTheWay 11 = .ok (.iload_n 3, 1) := by decide +kernel
theorem dX4_wishOnTheWay_12 : decode cX4_wishOnTheWay 12 = .ok (.if_icmp .lt 5, 3) := by decide +kernel
theorem dX4_wishOnTheWay_15 : decode cX4_wishOnTheWay 15 = .ok (.iconst (-1), 1) := by decide +kernel
theorem dX4_wishOnTheWay_16 : decode cX4_wishOnTheWay 16 = .ok (.ireturn, 1) := by decide +kernel
theorem dX4_wishOnTheWay_17 : decode cX4_wishOnTheWay 17 = .ok (.iload_n 1, 1) := by decide +kernel
theorem dX4_wishOnTheWay_18 : decode cX4_wishOnTheWay 18 = .ok (.istore 4, 2) := by decide +kernel
theorem dX4_wishOnTheWay_20 : decode cX4_wishOnTheWay 20 = .ok (.iload_n 3, 1) := by decide +kernel
theorem dX4_wishOnTheWay_21 : decode cX4_wishOnTheWay 21 = .ok (.istore 5, 2) := by decide +kernel
theorem dX4_wishOnTheWay_23 : decode cX4_wishOnTheWay 23 = .ok (.iload 5, 2) := by decide +kernel
theorem dX4_wishOnTheWay_25 : decode cX4_wishOnTheWay 25 = .ok (.iload_n 2, 1) := by decide +kernel
theorem dX4_wishOnTheWay_26 : decode cX4_wishOnTheWay 26 = .ok (.iconst 1, 1) := by decide +kernel
theorem dX4_wishOnTheWay_27 : decode cX4_wishOnTheWay 27 = .ok (.iadd, 1) := by decide +kernel
theorem dX4_wishOnTheWay_28 : decode cX4_wishOnTheWay 28 = .ok (.if_icmp .le 33, 3) := by decide +kernel
theorem dX4_wishOnTheWay_31 : decode cX4_wishOnTheWay 31 = .ok (.iload 5, 2) := by decide +kernel
theorem dX4_wishOnTheWay_33 : decode cX4_wishOnTheWay 33 = .ok (.iconst 1, 1) := by decide +kernel
theorem dX4_wishOnTheWay_34 : decode cX4_wishOnTheWay 34 = .ok (.isub, 1) := by decide +kernel
theorem dX4_wishOnTheWay_35 : decode cX4_wishOnTheWay 35 = .ok (.aload_n 0, 1) := by decide +kernel
theorem dX4_wishOnTheWay_36 : decode cX4_wishOnTheWay 36 = .ok (.getfield 47, 3) := by decide +kernel
theorem dX4_wishOnTheWay_39 : decode cX4_wishOnTheWay 39 = .ok (.imul, 1) := by decide +kernel
theorem dX4_wishOnTheWay_40 : decode cX4_wishOnTheWay 40 = .ok (.aload_n 0, 1) := by decide +kernel
theorem dX4_wishOnTheWay_41 : decode cX4_wishOnTheWay 41 = .ok (.iload 4, 2) := by decide +kernel
theorem dX4_wishOnTheWay_43 : decode cX4_wishOnTheWay 43 = .ok (.invokevirtual 124, 3) := by decide +kernel
theorem dX4_wishOnTheWay_46 : decode cX4_wishOnTheWay 46 = .ok (.iconst 4, 1) := by decide +kernel
theorem dX4_wishOnTheWay_47 : decode cX4_wishOnTheWay 47 = .ok (.ishr, 1) := by decide +kernel
theorem dX4_wishOnTheWay_48 : decode cX4_wishOnTheWay 48 = .ok (.sipush 1023, 3) := by decide +kernel
theorem dX4_wishOnTheWay_51 : decode cX4_wishOnTheWay 51 = .ok (.iand, 1) := by decide +kernel
theorem dX4_wishOnTheWay_52 : decode cX4_wishOnTheWay 52 = .ok (.iadd, 1) := by decide +kernel
theorem dX4_wishOnTheWay_53 : decode cX4_wishOnTheWay 53 = .ok (.istore 4, 2) := by decide +kernel
theorem dX4_wishOnTheWay_55 : decode cX4_wishOnTheWay 55 = .ok (.iinc 5 (-1), 3) := by decide +kernel
theorem dX4_wishOnTheWay_58 : decode cX4_wishOnTheWay 58 = .ok (.goto (-35), 3) := by decide +kernel
theorem dX4_wishOnTheWay_61 : decode cX4_wishOnTheWay 61 = .ok (.aload_n 0, 1) := by decide +kernel
theorem dX4_wishOnTheWay_62 : decode cX4_wishOnTheWay 62 = .ok (.iload 4, 2) := by decide +kernel
theorem dX4_wishOnTheWay_64 : decode cX4_wishOnTheWay 64 = .ok (.invokevirtual 124, 3) := by decide +kernel
theorem dX4_wishOnTheWay_67 : decode cX4_wishOnTheWay 67 = .ok (.bipush 15, 2) := by decide +kernel
theorem dX4_wishOnTheWay_69 : decode cX4_wishOnTheWay 69 = .ok (.iand, 1) := by decide +kernel
theorem dX4_wishOnTheWay_70 : decode cX4_wishOnTheWay 70 = .ok (.ireturn, 1) := by decide +kernel
theorem dX4_elementAt_0 : decode cX4_elementAt 0 = .ok (.iload_n 1, 1) := by decide +kernel
theorem dX4_elementAt_1 : decode cX4_elementAt 1 = .ok (.ifCond .lt 21, 3) := by decide +kernel
theorem dX4_elementAt_4 : decode cX4_elementAt 4 = .ok (.iload_n 1, 1) := by decide +kernel
theorem dX4_elementAt_5 : decode cX4_elementAt 5 = .ok (.aload_n 0, 1) := by decide +kernel
theorem dX4_elementAt_6 : decode cX4_elementAt 6 = .ok (.getfield 9, 3) := by decide +kernel
theorem dX4_elementAt_9 : decode cX4_elementAt 9 = .ok (.arraylength, 1) := by decide +kernel
theorem dX4_elementAt_10 : decode cX4_elementAt 10 = .ok (.if_icmp .ge 12, 3) := by decide +kernel
theorem dX4_elementAt_13 : decode cX4_elementAt 13 = .ok (.aload_n 0, 1) := by decide +kernel
theorem dX4_elementAt_14 : decode cX4_elementAt 14 = .ok (.getfield 9, 3) := by decide +kernel
theorem dX4_elementAt_17 : decode cX4_elementAt 17 = .ok (.iload_n 1, 1) := by decide +kernel
theorem dX4_elementAt_18 : decode cX4_elementAt 18 = .ok (.iaload, 1) := by decide +kernel
theorem dX4_elementAt_19 : decode cX4_elementAt 19 = .ok (.goto 4, 3) := by decide +kernel
theorem dX4_elementAt_22 : decode cX4_elementAt 22 = .ok (.iconst 0, 1) := by decide +kernel
theorem dX4_elementAt_23 : decode cX4_elementAt 23 = .ok (.ireturn, 1) := by decide +kernel
theorem dX5_init_0 : decode cX5_init 0 = .ok (.aload_n 0, 1) := by decide +kernel
theorem dX5_init_1 : decode cX5_init 1 = .ok (.invokespecial 3, 3) := by decide +kernel
theorem dX5_init_4 : decode cX5_init 4 = .ok (.aload_n 0, 1) := by decide +kernel
theorem dX5_init_5 : decode cX5_init 5 = .ok (.bipush 10, 2) := by decide +kernel
theorem dX5_init_7 : decode cX5_init 7 = .ok (.newarray .int, 2) := by decide +kernel
theorem dX5_init_9 : decode cX5_init 9 = .ok (.putfield 9, 3) := by decide +kernel
theorem dX5_init_12 : decode cX5_init 12 = .ok (.aload_n 0, 1) := by decide +kernel
theorem dX5_init_13 : decode cX5_init 13 = .ok (.bipush 10, 2) := by decide +kernel
theorem dX5_init_15 : decode cX5_init 15 = .ok (.newarray .int, 2) := by decide +kernel
theorem dX5_init_17 : decode cX5_init 17 = .ok (.putfield 15, 3) := by decide +kernel
theorem dX5_init_20 : decode cX5_init 20 = .ok (.aload_n 0, 1) := by decide +kernel
theorem dX5_init_21 : decode cX5_init 21 = .ok (.bipush 10, 2) := by decide +kernel
theorem dX5_init_23 : decode cX5_init 23 = .ok (.newarray .int, 2) := by decide +kernel
theorem dX5_init_25 : decode cX5_init 25 = .ok (.putfield 18, 3) := by decide +kernel
theorem dX5_init_28 : decode cX5_init 28 = .ok (.aload_n 0, 1) := by decide +kernel
theorem dX5_init_29 : decode cX5_init 29 = .ok (.bipush 12, 2) := by decide +kernel
theorem dX5_init_31 : decode cX5_init 31 = .ok (.newarray .int, 2) := by decide +kernel
theorem dX5_init_33 : decode cX5_init 33 = .ok (.putfield 21, 3) := by decide +kernel
theorem dX5_init_36 : decode cX5_init 36 = .ok (.aload_n 0, 1) := by decide +kernel
theorem dX5_init_37 : decode cX5_init 37 = .ok (.bipush 12, 2) := by decide +kernel
theorem dX5_init_39 : decode cX5_init 39 = .ok (.newarray .int, 2) := by decide +kernel
theorem dX5_init_41 : decode cX5_init 41 = .ok (.putfield 24, 3) := by decide +kernel
theorem dX5_init_44 : decode cX5_init 44 = .ok (.aload_n 0, 1) := by decide +kernel
theorem dX5_init_45 : decode cX5_init 45 = .ok (.bipush 12, 2) := by decide +kernel
theorem dX5_init_47 : decode cX5_init 47 = .ok (.newarray .int, 2) := by decide +kernel
theorem dX5_init_49 : decode cX5_init 49 = .ok (.putfield 27, 3) := by decide +kernel
theorem dX5_init_52 : decode cX5_init 52 = .ok (.aload_n 0, 1) := by decide +kernel
theorem dX5_init_53 : decode cX5_init 53 = .ok (.bipush 12, 2) := by decide +kernel
theorem dX5_init_55 : decode cX5_init 55 = .ok (.newarray .int, 2) := by decide +kernel
theorem dX5_init_57 : decode cX5_init 57 = .ok (.putfield 30, 3) := by decide +kernel
theorem dX5_init_60 : decode cX5_init 60 = .ok (.aload_n 0, 1) := by decide +kernel
theorem dX5_init_61 : decode cX5_init 61 = .ok (.bipush 12, 2) := by decide +kernel
theorem dX5_init_63 : decode cX5_init 63 = .ok (.newarray .int, 2) := by decide +kernel
theorem dX5_init_65 : decode cX5_init 65 = .ok (.putfield 33, 3) := by decide +kernel
theorem dX5_init_68 : decode cX5_init 68 = .ok (.aload_n 0, 1) := by decide +kernel
theorem dX5_init_69 : decode cX5_init 69 = .ok (.sipush 1600, 3) := by decide +kernel
theorem dX5_init_72 : decode cX5_init 72 = .ok (.newarray .int, 2) := by decide +kernel
theorem dX5_init_74 : decode cX5_init 74 = .ok (.putfield 36, 3) := by decide +kernel
theorem dX5_init_77 : decode cX5_init 77 = .ok (.aload_n 0, 1) := by decide +kernel
theorem dX5_init_78 : decode cX5_init 78 = .ok (.iconst 3, 1) := by decide +kernel
theorem dX5_init_79 : decode cX5_init 79 = .ok (.newarray .int, 2) := by decide +kernel
theorem dX5_init_81 : decode cX5_init 81 = .ok (.putfield 39, 3) := by decide +kernel
theorem dX5_init_84 : decode cX5_init 84 = .ok (.aload_n 0, 1) := by decide +kernel
theorem dX5_init_85 : decode cX5_init 85 = .ok (.iconst 3, 1) := by decide +kernel
theorem dX5_init_86 : decode cX5_init 86 = .ok (.newarray .int, 2) := by decide +kernel
theorem dX5_init_88 : decode cX5_init 88 = .ok (.putfield 42, 3) := by decide +kernel
theorem dX5_init_91 : decode cX5_init 91 = .ok (.aload_n 0, 1) := by decide +kernel
theorem dX5_init_92 : decode cX5_init 92 = .ok (.bipush 64, 2) := by decide +kernel
theorem dX5_init_94 : decode cX5_init 94 = .ok (.newarray .int, 2) := by decide +kernel
theorem dX5_init_96 : decode cX5_init 96 = .ok (.putfield 45, 3) := by decide +kernel
theorem dX5_init_99 : decode cX5_init 99 = .ok (.aload_n 0, 1) := by decide +kernel
theorem dX5_init_100 : decode cX5_init 100 = .ok (.bipush 100, 2) := by decide +kernel
theorem dX5_init_102 : decode cX5_init 102 = .ok (.putfield 48, 3) := by decide +kernel
theorem dX5_init_105 : decode cX5_init 105 = .ok (.return_, 1) := by decide +kernel
set_option maxRecDepth 20000 in
theorem ggX5_clear_J7_fill_53178 : GoodIn wsX5_clear wsJ7_fill_53178 := goodIn_r _ [14] rfl (by decide +kernel)
set_option maxRecDepth 20000 in
theorem gX5_clear_J7_fill_53178 : GoodIn wsX5_clear (va_wsS RX5 52 yJ7_fill_53178 wsJ7_fill_53178) := goodIn_app (goodIn_of _ (by decide +kernel)) ggX5_clear_J7_fill_53178
theorem dX5_clear_0 : decode cX5_clear 0 = .ok (.aload_n 0, 1) := by decide +kernel
theorem dX5_clear_1 : decode cX5_clear 1 = .ok (.getfield 39, 3) := by decide +kernel
theorem dX5_clear_4 : decode cX5_clear 4 = .ok (.iconst 0, 1) := by decide +kernel
theorem dX5_clear_5 : decode cX5_clear 5 = .ok (.invokestatic 52, 3) := by decide +kernel
theorem dX5_clear_8 : decode cX5_clear 8 = .ok (.aload_n 0, 1) := by decide +kernel
theorem dX5_clear_9 : decode cX5_clear 9 = .ok (.getfield 42, 3) := by decide +kernel
theorem dX5_clear_12 : decode cX5_clear 12 = .ok (.iconst 0, 1) := by decide +kernel
theorem dX5_clear_13 : decode cX5_clear 13 = .ok (.invokestatic 52, 3) := by decide +kernel
theorem dX5_clear_16 : decode cX5_clear 16 = .ok (.aload_n 0, 1) := by decide +kernel
theorem dX5_clear_17 : decode cX5_clear 17 = .ok (.iconst 0, 1) := by decide +kernel
theorem dX5_clear_18 : decode cX5_clear 18 = .ok (.putfield 58, 3) := by decide +kernel
theorem dX5_clear_21 : decode cX5_clear 21 = .ok (.aload_n 0, 1) := by decide +kernel
theorem dX5_clear_22 : decode cX5_clear 22 = .ok (.iconst 0, 1) := by decide +kernel
theorem dX5_clear_23 : decode cX5_clear 23 = .ok (.putfield 61, 3) := by decide +kernel
theorem dX5_clear_26 : decode cX5_clear 26 = .ok (.aload_n 0, 1) := by decide +kernel
theorem dX5_clear_27 : decode cX5_clear 27 = .ok (.iconst 0, 1) := by decide +kernel
theorem dX5_clear_28 : decode cX5_clear 28 = .ok (.putfield 64, 3) := by decide +kernel
theorem dX5_clear_31 : decode cX5_clear 31 = .ok (.aload_n 0, 1) := by decide +kernel
theorem dX5_clear_32 : decode cX5_clear 32 = .ok (.iconst 0, 1) := by decide +kernel
theorem dX5_clear_33 : decode cX5_clear 33 = .ok (.putfield 67, 3) := by decide +kernel
theorem dX5_clear_36 : decode cX5_clear 36 = .ok (.aload_n 0, 1) := by decide +kernel
theorem dX5_clear_37 : decode cX5_clear 37 = .ok (.iconst 0, 1) := by decide +kernel
theorem dX5_clear_38 : decode cX5_clear 38 = .ok (.putfield 70, 3) := by decide +kernel
theorem dX5_clear_41 : decode cX5_clear 41 = .ok (.aload_n 0, 1) := by decide +kernel
theorem dX5_clear_42 : decode cX5_clear 42 = .ok (.bipush 100, 2) := by decide +kernel
theorem dX5_clear_44 : decode cX5_clear 44 = .ok (.putfield 48, 3) := by decide +kernel
theorem dX5_clear_47 : decode cX5_clear 47 = .ok (.aload_n 0, 1) := by decide +kernel
theorem dX5_clear_48 : decode cX5_clear 48 = .ok (.iconst 0, 1) := by decide +kernel
theorem dX5_clear_49 : decode cX5_clear 49 = .ok (.putfield 73, 3) := by decide +kernel
theorem dX5_clear_52 : decode cX5_clear 52 = .ok (.aload_n 0, 1) := by decide +kernel
theorem dX5_clear_53 : decode cX5_clear 53 = .ok (.iconst 0, 1) := by decide +kernel
theorem dX5_clear_54 : decode cX5_clear 54 = .ok (.putfield 76, 3) := by decide +kernel
theorem dX5_clear_57 : decode cX5_clear 57 = .ok (.return_, 1) := by decide +kernel
theorem dX5_beginCode_0 : decode cX5_beginCode 0 = .ok (.iload_n 1, 1) := by decide +kernel
theorem dX5_beginCode_1 : decode cX5_beginCode 1 = .ok (.ifCond .lt 22, 3) := by decide +kernel
theorem dX5_beginCode_4 : decode cX5_beginCode 4 = .ok (.iload_n 1, 1) := by decide +kernel
theorem dX5_beginCode_5 : decode cX5_beginCode 5 = .ok (.aload_n 0, 1) := by decide +kernel
theorem dX5_beginCode_6 : decode cX5_beginCode 6 = .ok (.getfield 39, 3) := by decide +kernel
theorem dX5_beginCode_9 : decode cX5_beginCode 9 = .ok (.arraylength, 1) := by decide +kernel
theorem dX5_beginCode_10 : decode cX5_beginCode 10 = .ok (.if_icmp .ge 13, 3) := by decide +kernel
theorem dX5_beginCode_13 : decode cX5_beginCode 13 = .ok (.aload_n 0, 1) := by decide +kernel
theorem dX5_beginCode_14 : decode cX5_beginCode 14 = .ok (.getfield 39, 3) := by decide +kernel
theorem dX5_beginCode_17 : decode cX5_beginCode 17 = .ok (.iload_n 1, 1) := by decide +kernel
theorem dX5_beginCode_18 : decode cX5_beginCode 18 = .ok (.aload_n 0, 1) := by decide +kernel
theorem dX5_beginCode_19 : decode cX5_beginCode 19 = .ok (.getfield 58, 3) := by decide +kernel
theorem dX5_beginCode_22 : decode cX5_beginCode 22 = .ok (.iastore, 1) := by decide +kernel
theorem dX5_beginCode_23 : decode cX5_beginCode 23 = .ok (.return_, 1) := by decide +kernel
theorem dX5_endCode_0 : decode cX5_endCode 0 = .ok (.iload_n 1, 1) := by decide +kernel
theorem dX5_endCode_1 : decode cX5_endCode 1 = .ok (.ifCond .lt 22, 3) := by decide +kernel
theorem dX5_endCode_4 : decode cX5_endCode 4 = .ok (.iload_n 1, 1) := by decide +kernel
theorem dX5_endCode_5 : decode cX5_endCode 5 = .ok (.aload_n 0, 1) := by decide +kernel
theorem dX5_endCode_6 : decode cX5_endCode 6 = .ok (.getfield 42, 3) := by decide +kernel
theorem dX5_endCode_9 : decode cX5_endCode 9 = .ok (.arraylength, 1) := by decide +kernel
theorem dX5_endCode_10 : decode cX5_endCode 10 = .ok (.if_icmp .ge 13, 3) := by decide +kernel
theorem dX5_endCode_13 : decode cX5_endCode 13 = .ok (.aload_n 0, 1) := by decide +kernel
theorem dX5_endCode_14 : decode cX5_endCode 14 = .ok (.getfield 42, 3) := by decide +kernel
theorem dX5_endCode_17 : decode cX5_endCode 17 = .ok (.iload_n 1, 1) := by decide +kernel
theorem dX5_endCode_18 : decode cX5_endCode 18 = .ok (.aload_n 0, 1) := by decide +kernel
theorem dX5_endCode_19 : decode cX5_endCode 19 = .ok (.getfield 58, 3) := by decide +kernel
theorem dX5_endCode_22 : decode cX5_endCode 22 = .ok (.iastore, 1) := by decide +kernel
theorem dX5_endCode_23 : decode cX5_endCode 23 = .ok (.return_, 1) := by decide +kernel
theorem dX5_write_0 : decode cX5_write 0 = .ok (.aload_n 0, 1) := by decide +kernel
theorem dX5_write_1 : decode cX5_write 1 = .ok (.getfield 58, 3) := by decide +kernel
theorem dX5_write_4 : decode cX5_write 4 = .ok (.aload_n 0, 1) := by decide +kernel
theorem dX5_write_5 : decode cX5_write 5 = .ok (.getfield 36, 3) := by decide +kernel
theorem dX5_write_8 : decode cX5_write 8 = .ok (.arraylength, 1) := by decide +kernel
theorem dX5_write_9 : decode cX5_write 9 = .ok (.if_icmp .ge 23, 3) := by decide +kernel
theorem dX5_write_12 : decode cX5_write 12 = .ok (.aload_n 0, 1) := by decide +kernel
theorem dX5_write_13 : decode cX5_write 13 = .ok (.getfield 36, 3) := by decide +kernel
theorem dX5_write_16 : decode cX5_write 16 = .ok (.aload_n 0, 1) := by decide +kernel
theorem dX5_write_17 : decode cX5_write 17 = .ok (.getfield 58, 3) := by decide +kernel
theorem dX5_write_20 : decode cX5_write 20 = .ok (.iload_n 1, 1) := by decide +kernel
theorem dX5_write_21 : decode cX5_write 21 = .ok (.iastore, 1) := by decide +kernel
theorem dX5_write_22 : decode cX5_write 22 = .ok (.aload_n 0, 1) := by decide +kernel
theorem dX5_write_23 : decode cX5_write 23 = .ok (.dup, 1) := by decide +kernel
theorem dX5_write_24 : decode cX5_write 24 = .ok (.getfield 58, 3) := by decide +kernel
theorem dX5_write_27 : decode cX5_write 27 = .ok (.iconst 1, 1) := by decide +kernel
theorem dX5_write_28 : decode cX5_write 28 = .ok (.iadd, 1) := by decide +kernel
theorem dX5_write_29 : decode cX5_write 29 = .ok (.putfield 58, 3) := by decide +kernel
theorem dX5_write_32 : decode cX5_write 32 = .ok (.return_, 1) := by decide +kernel
theorem dX5_tells_0 : decode cX5_tells 0 = .ok (.iload_n 1, 1) := by decide +kernel
theorem dX5_tells_1 : decode cX5_tells 1 = .ok (.ifCond .lt 31, 3) := by decide +kernel
theorem dX5_tells_4 : decode cX5_tells 4 = .ok (.iload_n 1, 1) := by decide +kernel
theorem dX5_tells_5 : decode cX5_tells 5 = .ok (.aload_n 0, 1) := by decide +kernel
theorem dX5_tells_6 : decode cX5_tells 6 = .ok (.getfield 42, 3) := by decide +kernel
theorem dX5_tells_9 : decode cX5_tells 9 = .ok (.arraylength, 1) := by decide +kernel
theorem dX5_tells_10 : decode cX5_tells 10 = .ok (.if_icmp .ge 22, 3) := by decide +kernel
theorem dX5_tells_13 : decode cX5_tells 13 = .ok (.aload_n 0, 1) := by decide +kernel
theorem dX5_tells_14 : decode cX5_tells 14 = .ok (.getfield 42, 3) := by decide +kernel
theorem dX5_tells_17 : decode cX5_tells 17 = .ok (.iload_n 1, 1) := by decide +kernel
theorem dX5_tells_18 : decode cX5_tells 18 = .ok (.iaload, 1) := by decide +kernel
theorem dX5_tells_19 : decode cX5_tells 19 = .ok (.aload_n 0, 1) := by decide +kernel
theorem dX5_tells_20 : decode cX5_tells 20 = .ok (.getfield 39, 3) := by decide +kernel
theorem dX5_tells_23 : decode cX5_tells 23 = .ok (.iload_n 1, 1) := by decide +kernel
theorem dX5_tells_24 : decode cX5_tells 24 = .ok (.iaload, 1) := by decide +kernel
theorem dX5_tells_25 : decode cX5_tells 25 = .ok (.if_icmp .le 7, 3) := by decide +kernel
theorem dX5_tells_28 : decode cX5_tells 28 = .ok (.iconst 1, 1) := by decide +kernel
theorem dX5_tells_29 : decode cX5_tells 29 = .ok (.goto 4, 3) := by decide +kernel
theorem dX5_tells_32 : decode cX5_tells 32 = .ok (.iconst 0, 1) := by decide +kernel
theorem dX5_tells_33 : decode cX5_tells 33 = .ok (.ireturn, 1) := by decide +kernel
theorem dX5_worthOf_0 : decode cX5_worthOf 0 = .ok (.iconst 0, 1) := by decide +kernel
theorem dX5_worthOf_1 : decode cX5_worthOf 1 = .ok (.istore_n 2, 1) := by decide +kernel
theorem dX5_worthOf_2 : decode cX5_worthOf 2 = .ok (.iconst 0, 1) := by decide +kernel
theorem dX5_worthOf_3 : decode cX5_worthOf 3 = .ok (.istore_n 3, 1) := by decide +kernel
theorem dX5_worthOf_4 : decode cX5_worthOf 4 = .ok (.iload_n 3, 1) := by decide +kernel
theorem dX5_worthOf_5 : decode cX5_worthOf 5 = .ok (.aload_n 0, 1) := by decide +kernel
theorem dX5_worthOf_6 : decode cX5_worthOf 6 = .ok (.getfield 61, 3) := by decide +kernel
theorem dX5_worthOf_9 : decode cX5_worthOf 9 = .ok (.if_icmp .ge 27, 3) := by decide +kernel
theorem dX5_worthOf_12 : decode cX5_worthOf 12 = .ok (.iload_n 1, 1) := by decide +kernel
theorem dX5_worthOf_13 : decode cX5_worthOf 13 = .ok (.iload_n 3, 1) := by decide +kernel
theorem dX5_worthOf_14 : decode cX5_worthOf 14 = .ok (.ishr, 1) := by decide +kernel
theorem dX5_worthOf_15 : decode cX5_worthOf 15 = .ok (.iconst 1, 1) := by decide +kernel
theorem dX5_worthOf_16 : decode cX5_worthOf 16 = .ok (.iand, 1) := by decide +kernel
theorem dX5_worthOf_17 : decode cX5_worthOf 17 = .ok (.iconst 1, 1) := by decide +kernel
theorem dX5_worthOf_18 : decode cX5_worthOf 18 = .ok (.if_icmp .ne 12, 3) := by decide +kernel
theorem dX5_worthOf_21 : decode cX5_worthOf 21 = .ok (.iload_n 2, 1) := by decide +kernel
theorem dX5_worthOf_22 : decode cX5_worthOf 22 = .ok (.aload_n 0, 1) := by decide +kernel
theorem dX5_worthOf_23 : decode cX5_worthOf 23 = .ok (.getfield 15, 3) := by decide +kernel
theorem dX5_worthOf_26 : decode cX5_worthOf 26 = .ok (.iload_n 3, 1) := by decide +kernel
theorem dX5_worthOf_27 : decode cX5_worthOf 27 = .ok (.iaload, 1) := by decide +kernel
theorem dX5_worthOf_28 : decode cX5_worthOf 28 = .ok (.iadd, 1) := by decide +kernel
theorem dX5_worthOf_29 : decode cX5_worthOf 29 = .ok (.istore_n 2, 1) := by decide +kernel
theorem dX5_worthOf_30 : decode cX5_worthOf 30 = .ok (.iinc 3 1, 3) := by decide +kernel
theorem dX5_worthOf_33 : decode cX5_worthOf 33 = .ok (.goto (-29), 3) := by decide +kernel
theorem dX5_worthOf_36 : decode cX5_worthOf 36 = .ok (.iload_n 2, 1) := by decide +kernel
theorem dX5_worthOf_37 : decode cX5_worthOf 37 = .ok (.ireturn, 1) := by decide +kernel
set_option maxRecDepth 20000 in
theorem ggX5_lastingWorthOf_X5_worthOf : GoodIn wsX5_lastingWorthOf wsX5_worthOf := goodIn_r _ [6, 7, 8, 9, 10, 11, 12, 13, 14, 15, 16, 17, 18, 19, 20, 21, 22, 23, 24, 25, 26, 27, 28] rfl (by decide +kernel)
set_option maxRecDepth 20000 in
theorem gX5_lastingWorthOf_X5_worthOf : GoodIn wsX5_lastingWorthOf (wsV RX5 79 RX5 yX5_worthOf wsX5_worthOf) := goodIn_app (goodIn_of _ (by decide +kernel)) ggX5_lastingWorthOf_X5_worthOf
theorem dX5_lastingWorthOf_0 : decode cX5_lastingWorthOf 0 = .ok (.aload_n 0, 1) := by decide +kernel
theorem dX5_lastingWorthOf_1 : decode cX5_lastingWorthOf 1 = .ok (.iload_n 1, 1) := by decide +kernel
theorem dX5_lastingWorthOf_2 : decode cX5_lastingWorthOf 2 = .ok (.aload_n 0, 1) := by decide +kernel
theorem dX5_lastingWorthOf_3 : decode cX5_lastingWorthOf 3 = .ok (.getfield 67, 3) := by decide +kernel
theorem dX5_lastingWorthOf_6 : decode cX5_lastingWorthOf 6 = .ok (.iconst (-1), 1) := by decide +kernel
theorem dX5_lastingWorthOf_7 : decode cX5_lastingWorthOf 7 = .ok (.ixor, 1) := by decide +kernel
theorem dX5_lastingWorthOf_8 : decode cX5_lastingWorthOf 8 = .ok (.iand, 1) := by decide +kernel
theorem dX5_lastingWorthOf_9 : decode cX5_lastingWorthOf 9 = .ok (.invokevirtual 79, 3) := by decide +kernel
theorem dX5_lastingWorthOf_12 : decode cX5_lastingWorthOf 12 = .ok (.ireturn, 1) := by decide +kernel
theorem dX5_giversOf_0 : decode cX5_giversOf 0 = .ok (.iconst 0, 1) := by decide +kernel
theorem dX5_giversOf_1 : decode cX5_giversOf 1 = .ok (.istore_n 2, 1) := by decide +kernel
theorem dX5_giversOf_2 : decode cX5_giversOf 2 = .ok (.iconst 0, 1) := by decide +kernel
theorem dX5_giversOf_3 : decode cX5_giversOf 3 = .ok (.istore_n 3, 1) := by decide +kernel
theorem dX5_giversOf_4 : decode cX5_giversOf 4 = .ok (.iload_n 3, 1) := by decide +kernel
theorem dX5_giversOf_5 : decode cX5_giversOf 5 = .ok (.aload_n 0, 1) := by decide +kernel
theorem dX5_giversOf_6 : decode cX5_giversOf 6 = .ok (.getfield 64, 3) := by decide +kernel
theorem dX5_giversOf_9 : decode cX5_giversOf 9 = .ok (.if_icmp .ge 22, 3) := by decide +kernel
theorem dX5_giversOf_12 : decode cX5_giversOf 12 = .ok (.aload_n 0, 1) := by decide +kernel
theorem dX5_giversOf_13 : decode cX5_giversOf 13 = .ok (.getfield 27, 3) := by decide +kernel
theorem dX5_giversOf_16 : decode cX5_giversOf 16 = .ok (.iload_n 3, 1) := by decide +kernel
theorem dX5_giversOf_17 : decode cX5_giversOf 17 = .ok (.iaload, 1) := by decide +kernel
theorem dX5_giversOf_18 : decode cX5_giversOf 18 = .ok (.iload_n 1, 1) := by decide +kernel
theorem dX5_giversOf_19 : decode cX5_giversOf 19 = .ok (.if_icmp .ne 6, 3) := by decide +kernel
theorem dX5_giversOf_22 : decode cX5_giversOf 22 = .ok (.iinc 2 1, 3) := by decide +kernel
theorem dX5_giversOf_25 : decode cX5_giversOf 25 = .ok (.iinc 3 1, 3) := by decide +kernel
theorem dX5_giversOf_28 : decode cX5_giversOf 28 = .ok (.goto (-24), 3) := by decide +kernel
theorem dX5_giversOf_31 : decode cX5_giversOf 31 = .ok (.iload_n 2, 1) := by decide +kernel
theorem dX5_giversOf_32 : decode cX5_giversOf 32 = .ok (.ireturn, 1) := by decide +kernel
theorem dX5_rhymeOf_0 : decode cX5_rhymeOf 0 = .ok (.iload_n 1, 1) := by decide +kernel
theorem dX5_rhymeOf_1 : decode cX5_rhymeOf 1 = .ok (.ifCond .lt 11, 3) := by decide +kernel
theorem dX5_rhymeOf_4 : decode cX5_rhymeOf 4 = .ok (.iload_n 1, 1) := by decide +kernel
theorem dX5_rhymeOf_5 : decode cX5_rhymeOf 5 = .ok (.aload_n 0, 1) := by decide +kernel
theorem dX5_rhymeOf_6 : decode cX5_rhymeOf 6 = .ok (.getfield 64, 3) := by decide +kernel
theorem dX5_rhymeOf_9 : decode cX5_rhymeOf 9 = .ok (.if_icmp .lt 5, 3) := by decide +kernel
theorem dX5_rhymeOf_12 : decode cX5_rhymeOf 12 = .ok (.iconst 0, 1) := by decide +kernel
theorem dX5_rhymeOf_13 : decode cX5_rhymeOf 13 = .ok (.ireturn, 1) := by decide +kernel
theorem dX5_rhymeOf_14 : decode cX5_rhymeOf 14 = .ok (.aload_n 0, 1) := by decide +kernel
theorem dX5_rhymeOf_15 : decode cX5_rhymeOf 15 = .ok (.getfield 27, 3) := by decide +kernel
theorem dX5_rhymeOf_18 : decode cX5_rhymeOf 18 = .ok (.iload_n 1, 1) := by decide +kernel
theorem dX5_rhymeOf_19 : decode cX5_rhymeOf 19 = .ok (.iaload, 1) := by decide +kernel
theorem dX5_rhymeOf_20 : decode cX5_rhymeOf 20 = .ok (.istore_n 2, 1) := by decide +kernel
theorem dX5_rhymeOf_21 : decode cX5_rhymeOf 21 = .ok (.iload_n 2, 1) := by decide +kernel
theorem dX5_rhymeOf_22 : decode cX5_rhymeOf 22 = .ok (.ifCond .lt 20, 3) := by decide +kernel
theorem dX5_rhymeOf_25 : decode cX5_rhymeOf 25 = .ok (.iload_n 2, 1) := by decide +kernel
theorem dX5_rhymeOf_26 : decode cX5_rhymeOf 26 = .ok (.aload_n 0, 1) := by decide +kernel
theorem dX5_rhymeOf_27 : decode cX5_rhymeOf 27 = .ok (.getfield 61, 3) := by decide +kernel
theorem dX5_rhymeOf_30 : decode cX5_rhymeOf 30 = .ok (.if_icmp .ge 12, 3) := by decide +kernel
theorem dX5_rhymeOf_33 : decode cX5_rhymeOf 33 = .ok (.aload_n 0, 1) := by decide +kernel
theorem dX5_rhymeOf_34 : decode cX5_rhymeOf 34 = .ok (.getfield 18, 3) := by decide +kernel
theorem dX5_rhymeOf_37 : decode cX5_rhymeOf 37 = .ok (.iload_n 2, 1) := by decide +kernel
theorem dX5_rhymeOf_38 : decode cX5_rhymeOf 38 = .ok (.iaload, 1) := by decide +kernel
theorem dX5_rhymeOf_39 : decode cX5_rhymeOf 39 = .ok (.goto 4, 3) := by decide +kernel
theorem dX5_rhymeOf_42 : decode cX5_rhymeOf 42 = .ok (.iconst 0, 1) := by decide +kernel
theorem dX5_rhymeOf_43 : decode cX5_rhymeOf 43 = .ok (.ireturn, 1) := by decide +kernel
theorem dX5_wordsOf_0 : decode cX5_wordsOf 0 = .ok (.iload_n 1, 1) := by decide +kernel
theorem dX5_wordsOf_1 : decode cX5_wordsOf 1 = .ok (.ifCond .lt 20, 3) := by decide +kernel
theorem dX5_wordsOf_4 : decode cX5_wordsOf 4 = .ok (.iload_n 1, 1) := by decide +kernel
theorem dX5_wordsOf_5 : decode cX5_wordsOf 5 = .ok (.aload_n 0, 1) := by decide +kernel
theorem dX5_wordsOf_6 : decode cX5_wordsOf 6 = .ok (.getfield 64, 3) := by decide +kernel
theorem dX5_wordsOf_9 : decode cX5_wordsOf 9 = .ok (.if_icmp .ge 12, 3) := by decide +kernel
theorem dX5_wordsOf_12 : decode cX5_wordsOf 12 = .ok (.aload_n 0, 1) := by decide +kernel
theorem dX5_wordsOf_13 : decode cX5_wordsOf 13 = .ok (.getfield 24, 3) := by decide +kernel
theorem dX5_wordsOf_16 : decode cX5_wordsOf 16 = .ok (.iload_n 1, 1) := by decide +kernel
theorem dX5_wordsOf_17 : decode cX5_wordsOf 17 = .ok (.iaload, 1) := by decide +kernel
theorem dX5_wordsOf_18 : decode cX5_wordsOf 18 = .ok (.goto 4, 3) := by decide +kernel
theorem dX5_wordsOf_21 : decode cX5_wordsOf 21 = .ok (.iconst 0, 1) := by decide +kernel
theorem dX5_wordsOf_22 : decode cX5_wordsOf 22 = .ok (.ireturn, 1) := by decide +kernel
set_option maxRecDepth 20000 in
theorem ggX5_lengthOf_X5_wordsOf : GoodIn wsX5_lengthOf wsX5_wordsOf := goodIn_r _ [5, 6, 7, 15, 16, 17, 18, 19, 20, 21, 22, 23, 24, 25, 26, 27, 28, 29, 30, 31, 32, 33, 34] rfl (by decide +kernel)
set_option maxRecDepth 20000 in
theorem gX5_lengthOf_X5_wordsOf : GoodIn wsX5_lengthOf (wsV RX5 83 RX5 yX5_wordsOf wsX5_wordsOf) := goodIn_app (goodIn_of _ (by decide +kernel)) ggX5_lengthOf_X5_wordsOf
set_option maxRecDepth 20000 in
theorem ggX5_lengthOf_X5_rhymeOf : GoodIn wsX5_lengthOf wsX5_rhymeOf := goodIn_r _ [11, 6, 12, 13, 14, 15, 16, 17, 18, 19, 20, 21, 22, 23, 24, 25, 26, 27, 28, 29, 30, 31, 32, 33, 34] rfl (by decide +kernel)
set_option maxRecDepth 20000 in
theorem gX5_lengthOf_X5_rhymeOf : GoodIn wsX5_lengthOf (wsV RX5 86 RX5 yX5_rhymeOf wsX5_rhymeOf) := goodIn_app (goodIn_of _ (by decide +kernel)) ggX5_lengthOf_X5_rhymeOf
theorem dX5_lengthOf_0 : decode cX5_lengthOf 0 = .ok (.aload_n 0, 1) := by decide +kernel
theorem dX5_lengthOf_1 : decode cX5_lengthOf 1 = .ok (.iload_n 1, 1) := by decide +kernel
theorem dX5_lengthOf_2 : decode cX5_lengthOf 2 = .ok (.invokevirtual 83, 3) := by decide +kernel
theorem dX5_lengthOf_5 : decode cX5_lengthOf 5 = .ok (.aload_n 0, 1) := by decide +kernel
theorem dX5_lengthOf_6 : decode cX5_lengthOf 6 = .ok (.iload_n 1, 1) := by decide +kernel
theorem dX5_lengthOf_7 : decode cX5_lengthOf 7 = .ok (.invokevirtual 86, 3) := by decide +kernel
theorem dX5_lengthOf_10 : decode cX5_lengthOf 10 = .ok (.iadd, 1) := by decide +kernel
theorem dX5_lengthOf_11 : decode cX5_lengthOf 11 = .ok (.ireturn, 1) := by decide +kernel
set_option maxRecDepth 20000 in
theorem ggX5_roomOf_X5_tells : GoodIn wsX5_roomOf wsX5_tells := goodIn_r _ [12, 13, 14, 74, 75, 76, 77, 78, 79, 80, 81, 82, 83, 84, 85, 86, 87, 88, 89, 90, 91, 92, 93] rfl (by decide +kernel)
set_option maxRecDepth 20000 in
theorem gX5_roomOf_X5_tells : GoodIn wsX5_roomOf (wsV RX5 89 RX5 yX5_tells wsX5_tells) := goodIn_app (goodIn_of _ (by decide +kernel)) ggX5_roomOf_X5_tells
set_option maxRecDepth 20000 in
theorem ggX5_roomOf_X5_reckon : GoodIn wsX5_roomOf wsX5_reckon := goodIn_r _ [18, 13, 19, 1, 2, 3, 4, 14, 20, 21, 22, 11, 23, 24, 25, 26, 27, 28, 29, 30, 31, 32, 33, 34, 35, 36, 37, 38, 39, 40, 41, 42, 43, 44, 45, 46, 47, 48, 49, 50, 51, 52, 53, 54, 55, 56, 57, 58, 59, 5, 6, 7, 60, 61, 62, 63, 64, 65, 66, 67, 68, 69, 70, 71, 72, 73, 74, 75, 76, 77, 78, 79, 80, 81, 82, 83, 84, 85, 86, 87, 88, 89, 90, 91, 92, 93, 94, 95, 96, 97] rfl (by decide +kernel)
set_option maxRecDepth 20000 in
theorem gX5_roomOf_X5_reckon : GoodIn wsX5_roomOf (wsV RX5 93 RX5 yX5_reckon wsX5_reckon) := goodIn_app (goodIn_of _ (by decide +kernel)) ggX5_roomOf_X5_reckon
theorem dX5_roomOf_0 : decode cX5_roomOf 0 = .ok (.aload_n 0, 1) := by decide +kernel
theorem dX5_roomOf_1 : decode cX5_roomOf 1 = .ok (.iconst 1, 1) := by decide +kernel
theorem dX5_roomOf_2 : decode cX5_roomOf 2 = .ok (.invokevirtual 89, 3) := by decide +kernel
theorem dX5_roomOf_5 : decode cX5_roomOf 5 = .ok (.ifCond .ne 6, 3) := by decide +kernel
theorem dX5_roomOf_8 : decode cX5_roomOf 8 = .ok (.bipush 99, 2) := by decide +kernel
theorem dX5_roomOf_10 : decode cX5_roomOf 10 = .ok (.ireturn, 1) := by decide +kernel
theorem dX5_roomOf_11 : decode cX5_roomOf 11 = .ok (.iconst 0, 1) := by decide +kernel
theorem dX5_roomOf_12 : decode cX5_roomOf 12 = .ok (.bipush 99, 2) := by decide +kernel
theorem dX5_roomOf_14 : decode cX5_roomOf 14 = .ok (.aload_n 0, 1) := by decide +kernel
theorem dX5_roomOf_15 : decode cX5_roomOf 15 = .ok (.iconst 1, 1) := by decide +kernel
theorem dX5_roomOf_16 : decode cX5_roomOf 16 = .ok (.aload_n 1, 1) := by decide +kernel
theorem dX5_roomOf_17 : decode cX5_roomOf 17 = .ok (.iconst (-1), 1) := by decide +kernel
theorem dX5_roomOf_18 : decode cX5_roomOf 18 = .ok (.invokevirtual 93, 3) := by decide +kernel
theorem dX5_roomOf_21 : decode cX5_roomOf 21 = .ok (.invokestatic 97, 3) := by decide +kernel
theorem dX5_roomOf_24 : decode cX5_roomOf 24 = .ok (.invokestatic 103, 3) := by decide +kernel
theorem dX5_roomOf_27 : decode cX5_roomOf 27 = .ok (.ireturn, 1) := by decide +kernel
set_option maxRecDepth 20000 in
theorem ggX5_isContent_X5_tells : GoodIn wsX5_isContent wsX5_tells := goodIn_r _ [5, 6, 7, 74, 75, 76, 77, 78, 79, 80, 81, 82, 83, 84, 85, 86, 87, 88, 89, 90, 91, 92, 93] rfl (by decide +kernel)
set_option maxRecDepth 20000 in
theorem gX5_isContent_X5_tells : GoodIn wsX5_isContent (wsV RX5 89 RX5 yX5_tells wsX5_tells) := goodIn_app (goodIn_of _ (by decide +kernel)) ggX5_isContent_X5_tells
set_option maxRecDepth 20000 in
theorem ggX5_isContent_X5_reckon : GoodIn wsX5_isContent wsX5_reckon := goodIn_r _ [11, 6, 12, 13, 14, 15, 16, 7, 17, 18, 19, 4, 20, 21, 22, 23, 24, 25, 26, 27, 28, 29, 30, 31, 32, 33, 34, 35, 36, 37, 38, 39, 40, 41, 42, 43, 44, 45, 46, 47, 48, 49, 50, 51, 52, 53, 54, 55, 56, 57, 58, 59, 60, 61, 62, 63, 64, 65, 66, 67, 68, 69, 70, 71, 72, 73, 74, 75, 76, 77, 78, 79, 80, 81, 82, 83, 84, 85, 86, 87, 88, 89, 90, 91, 92, 93, 94, 95, 96, 97] rfl (by decide +kernel)
set_option maxRecDepth 20000 in
theorem gX5_isContent_X5_reckon : GoodIn wsX5_isContent (wsV RX5 93 RX5 yX5_reckon wsX5_reckon) := goodIn_app (goodIn_of _ (by decide +kernel)) ggX5_isContent_X5_reckon
theorem dX5_isContent_0 : decode cX5_isContent 0 = .ok (.aload_n 0, 1) := by decide +kernel
theorem dX5_isContent_1 : decode cX5_isContent 1 = .ok (.iconst 2, 1) := by decide +kernel
theorem dX5_isContent_2 : decode cX5_isContent 2 = .ok (.invokevirtual 89, 3) := by decide +kernel
theorem dX5_isContent_5 : decode cX5_isContent 5 = .ok (.ifCond .eq 17, 3) := by decide +kernel
theorem dX5_isContent_8 : decode cX5_isContent 8 = .ok (.aload_n 0, 1) := by decide +kernel
theorem dX5_isContent_9 : decode cX5_isContent 9 = .ok (.iconst 2, 1) := by decide +kernel
theorem dX5_isContent_10 : decode cX5_isContent 10 = .ok (.aload_n 1, 1) := by decide +kernel
theorem dX5_isContent_11 : decode cX5_isContent 11 = .ok (.iconst (-1), 1) := by decide +kernel
theorem dX5_isContent_12 : decode cX5_isContent 12 = .ok (.invokevirtual 93, 3) := by decide +kernel
theorem dX5_isContent_15 : decode cX5_isContent 15 = .ok (.ifCond .eq 7, 3) := by decide +kernel
theorem dX5_isContent_18 : decode cX5_isContent 18 = .ok (.iconst 1, 1) := by decide +kernel
theorem dX5_isContent_19 : decode cX5_isContent 19 = .ok (.goto 4, 3) := by decide +kernel
theorem dX5_isContent_22 : decode cX5_isContent 22 = .ok (.iconst 0, 1) := by decide +kernel
theorem dX5_isContent_23 : decode cX5_isContent 23 = .ok (.ireturn, 1) := by decide +kernel
set_option maxRecDepth 20000 in
theorem ggX5_darkOf_X5_tells : GoodIn wsX5_darkOf wsX5_tells := goodIn_r _ [12, 13, 14, 74, 75, 76, 77, 78, 79, 80, 81, 82, 83, 84, 85, 86, 87, 88, 89, 90, 91, 92, 93] rfl (by decide +kernel)
set_option maxRecDepth 20000 in
theorem gX5_darkOf_X5_tells : GoodIn wsX5_darkOf (wsV RX5 89 RX5 yX5_tells wsX5_tells) := goodIn_app (goodIn_of _ (by decide +kernel)) ggX5_darkOf_X5_tells
set_option maxRecDepth 20000 in
theorem ggX5_darkOf_X5_reckon : GoodIn wsX5_darkOf wsX5_reckon := goodIn_r _ [18, 13, 19, 1, 2, 3, 4, 14, 20, 21, 22, 11, 23, 24, 25, 26, 27, 28, 29, 30, 31, 32, 33, 34, 35, 36, 37, 38, 39, 40, 41, 42, 43, 44, 45, 46, 47, 48, 49, 50, 51, 52, 53, 54, 55, 56, 57, 58, 59, 5, 6, 7, 60, 61, 62, 63, 64, 65, 66, 67, 68, 69, 70, 71, 72, 73, 74, 75, 76, 77, 78, 79, 80, 81, 82, 83, 84, 85, 86, 87, 88, 89, 90, 91, 92, 93, 94, 95, 96, 97] rfl (by decide +kernel)
set_option maxRecDepth 20000 in
theorem gX5_darkOf_X5_reckon : GoodIn wsX5_darkOf (wsV RX5 93 RX5 yX5_reckon wsX5_reckon) := goodIn_app (goodIn_of _ (by decide +kernel)) ggX5_darkOf_X5_reckon
theorem dX5_darkOf_0 : decode cX5_darkOf 0 = .ok (.aload_n 0, 1) := by decide +kernel
theorem dX5_darkOf_1 : decode cX5_darkOf 1 = .ok (.iconst 0, 1) := by decide +kernel
theorem dX5_darkOf_2 : decode cX5_darkOf 2 = .ok (.invokevirtual 89, 3) := by decide +kernel
theorem dX5_darkOf_5 : decode cX5_darkOf 5 = .ok (.ifCond .ne 5, 3) := by decide +kernel
theorem dX5_darkOf_8 : decode cX5_darkOf 8 = .ok (.iconst 0, 1) := by decide +kernel
theorem dX5_darkOf_9 : decode cX5_darkOf 9 = .ok (.ireturn, 1) := by decide +kernel
theorem dX5_darkOf_10 : decode cX5_darkOf 10 = .ok (.iconst 0, 1) := by decide +kernel
theorem dX5_darkOf_11 : decode cX5_darkOf 11 = .ok (.bipush 99, 2) := by decide +kernel
theorem dX5_darkOf_13 : decode cX5_darkOf 13 = .ok (.aload_n 0, 1) := by decide +kernel
theorem dX5_darkOf_14 : decode cX5_darkOf 14 = .ok (.iconst 0, 1) := by decide +kernel
theorem dX5_darkOf_15 : decode cX5_darkOf 15 = .ok (.aload_n 1, 1) := by decide +kernel
theorem dX5_darkOf_16 : decode cX5_darkOf 16 = .ok (.iload_n 2, 1) := by decide +kernel
theorem dX5_darkOf_17 : decode cX5_darkOf 17 = .ok (.invokevirtual 93, 3) := by decide +kernel
theorem dX5_darkOf_20 : decode cX5_darkOf 20 = .ok (.invokestatic 97, 3) := by decide +kernel
theorem dX5_darkOf_23 : decode cX5_darkOf 23 = .ok (.invokestatic 103, 3) := by decide +kernel
theorem dX5_darkOf_26 : decode cX5_darkOf 26 = .ok (.ireturn, 1) := by decide +kernel
set_option maxRecDepth 20000 in
theorem ggX5_seaBehind_X5_darkOf : GoodIn wsX5_seaBehind wsX5_darkOf := goodIn_r _ [6, 7, 8, 9, 10, 11, 12, 13, 14, 15, 16, 5, 17, 18, 19, 20, 21, 22, 23, 24, 25, 26, 27, 28, 29, 30, 31, 32, 33, 1, 34, 35, 36, 37, 38, 39, 40, 41, 42, 43, 44, 45, 46, 47, 48, 49, 50, 51, 52, 53, 54, 55, 56, 57, 58, 59, 60, 61, 62, 63, 64, 65, 66, 67, 68, 69, 70, 71, 72, 73, 74, 75, 76, 77, 82, 83, 84, 85, 86, 87, 88, 89, 90, 91, 92, 93, 94, 95, 96, 97, 98, 99, 100, 101, 78, 79, 80, 81] rfl (by decide +kernel)
set_option maxRecDepth 20000 in
theorem gX5_seaBehind_X5_darkOf : GoodIn wsX5_seaBehind (wsV RX5 111 RX5 yX5_darkOf wsX5_darkOf) := goodIn_app (goodIn_of _ (by decide +kernel)) ggX5_seaBehind_X5_darkOf
theorem dX5_seaBehind_0 : decode cX5_seaBehind 0 = .ok (.aload_n 1, 1) := by decide +kernel
theorem dX5_seaBehind_1 : decode cX5_seaBehind 1 = .ok (.getfield 106, 3) := by decide +kernel
theorem dX5_seaBehind_4 : decode cX5_seaBehind 4 = .ok (.aload_n 0, 1) := by decide +kernel
theorem dX5_seaBehind_5 : decode cX5_seaBehind 5 = .ok (.aload_n 1, 1) := by decide +kernel
theorem dX5_seaBehind_6 : decode cX5_seaBehind 6 = .ok (.iload_n 2, 1) := by decide +kernel
theorem dX5_seaBehind_7 : decode cX5_seaBehind 7 = .ok (.invokevirtual 111, 3) := by decide +kernel
theorem dX5_seaBehind_10 : decode cX5_seaBehind 10 = .ok (.iadd, 1) := by decide +kernel
theorem dX5_seaBehind_11 : decode cX5_seaBehind 11 = .ok (.ireturn, 1) := by decide +kernel
theorem dX5_thingsBehind_0 : decode cX5_thingsBehind 0 = .ok (.iload_n 2, 1) := by decide +kernel
theorem dX5_thingsBehind_1 : decode cX5_thingsBehind 1 = .ok (.ifCond .lt 33, 3) := by decide +kernel
theorem dX5_thingsBehind_4 : decode cX5_thingsBehind 4 = .ok (.iload_n 2, 1) := by decide +kernel
theorem dX5_thingsBehind_5 : decode cX5_thingsBehind 5 = .ok (.aload_n 0, 1) := by decide +kernel
theorem dX5_thingsBehind_6 : decode cX5_thingsBehind 6 = .ok (.getfield 64, 3) := by decide +kernel
theorem dX5_thingsBehind_9 : decode cX5_thingsBehind 9 = .ok (.if_icmp .ge 25, 3) := by decide +kernel
theorem dX5_thingsBehind_12 : decode cX5_thingsBehind 12 = .ok (.iload_n 1, 1) := by decide +kernel
theorem dX5_thingsBehind_13 : decode cX5_thingsBehind 13 = .ok (.aload_n 0, 1) := by decide +kernel
theorem dX5_thingsBehind_14 : decode cX5_thingsBehind 14 = .ok (.getfield 33, 3) := by decide +kernel
theorem dX5_thingsBehind_17 : decode cX5_thingsBehind 17 = .ok (.iload_n 2, 1) := by decide +kernel
theorem dX5_thingsBehind_18 : decode cX5_thingsBehind 18 = .ok (.iaload, 1) := by decide +kernel
theorem dX5_thingsBehind_19 : decode cX5_thingsBehind 19 = .ok (.iconst (-1), 1) := by decide +kernel
theorem dX5_thingsBehind_20 : decode cX5_thingsBehind 20 = .ok (.ixor, 1) := by decide +kernel
theorem dX5_thingsBehind_21 : decode cX5_thingsBehind 21 = .ok (.iand, 1) := by decide +kernel
theorem dX5_thingsBehind_22 : decode cX5_thingsBehind 22 = .ok (.iconst 1, 1) := by decide +kernel
theorem dX5_thingsBehind_23 : decode cX5_thingsBehind 23 = .ok (.aload_n 0, 1) := by decide +kernel
theorem dX5_thingsBehind_24 : decode cX5_thingsBehind 24 = .ok (.getfield 27, 3) := by decide +kernel
theorem dX5_thingsBehind_27 : decode cX5_thingsBehind 27 = .ok (.iload_n 2, 1) := by decide +kernel
theorem dX5_thingsBehind_28 : decode cX5_thingsBehind 28 = .ok (.iaload, 1) := by decide +kernel
theorem dX5_thingsBehind_29 : decode cX5_thingsBehind 29 = .ok (.ishl, 1) := by decide +kernel
theorem dX5_thingsBehind_30 : decode cX5_thingsBehind 30 = .ok (.ior, 1) := by decide +kernel
theorem dX5_thingsBehind_31 : decode cX5_thingsBehind 31 = .ok (.goto 4, 3) := by decide +kernel
theorem dX5_thingsBehind_34 : decode cX5_thingsBehind 34 = .ok (.iload_n 1, 1) := by decide +kernel
theorem dX5_thingsBehind_35 : decode cX5_thingsBehind 35 = .ok (.ireturn, 1) := by decide +kernel
set_option maxRecDepth 20000 in
theorem ggX5_grantAt_X5_thingsBehind : GoodIn wsX5_grantAt wsX5_thingsBehind := goodIn_r _ [8, 9, 10, 11, 25, 26, 27, 28, 29, 30, 31, 32, 33, 34, 35, 36, 37, 38, 39, 40, 41, 42, 43, 44] rfl (by decide +kernel)
set_option maxRecDepth 20000 in
theorem gX5_grantAt_X5_thingsBehind : GoodIn wsX5_grantAt (wsV RX5 116 RX5 yX5_thingsBehind wsX5_thingsBehind) := goodIn_app (goodIn_of _ (by decide +kernel)) ggX5_grantAt_X5_thingsBehind
set_option maxRecDepth 20000 in
theorem ggX5_grantAt_X0_put : GoodIn wsX5_grantAt wsX0_put := goodIn_r _ [16, 17, 18, 19, 20, 21, 22, 23, 24] rfl (by decide +kernel)
set_option maxRecDepth 20000 in
theorem gX5_grantAt_X0_put : GoodIn wsX5_grantAt (wsV RX5 125 RX0 yX0_put wsX0_put) := goodIn_app (goodIn_of _ (by decide +kernel)) ggX5_grantAt_X0_put
theorem dX5_grantAt_0 : decode cX5_grantAt 0 = .ok (.aload_n 1, 1) := by decide +kernel
theorem dX5_grantAt_1 : decode cX5_grantAt 1 = .ok (.aload_n 0, 1) := by decide +kernel
theorem dX5_grantAt_2 : decode cX5_grantAt 2 = .ok (.aload_n 1, 1) := by decide +kernel
theorem dX5_grantAt_3 : decode cX5_grantAt 3 = .ok (.getfield 115, 3) := by decide +kernel
theorem dX5_grantAt_6 : decode cX5_grantAt 6 = .ok (.iload_n 2, 1) := by decide +kernel
theorem dX5_grantAt_7 : decode cX5_grantAt 7 = .ok (.invokevirtual 116, 3) := by decide +kernel
theorem dX5_grantAt_10 : decode cX5_grantAt 10 = .ok (.iload_n 3, 1) := by decide +kernel
theorem dX5_grantAt_11 : decode cX5_grantAt 11 = .ok (.aload_n 1, 1) := by decide +kernel
theorem dX5_grantAt_12 : decode cX5_grantAt 12 = .ok (.getfield 119, 3) := by decide +kernel
theorem dX5_grantAt_15 : decode cX5_grantAt 15 = .ok (.iconst 1, 1) := by decide +kernel
theorem dX5_grantAt_16 : decode cX5_grantAt 16 = .ok (.iadd, 1) := by decide +kernel
theorem dX5_grantAt_17 : decode cX5_grantAt 17 = .ok (.aload_n 1, 1) := by decide +kernel
theorem dX5_grantAt_18 : decode cX5_grantAt 18 = .ok (.getfield 122, 3) := by decide +kernel
theorem dX5_grantAt_21 : decode cX5_grantAt 21 = .ok (.invokevirtual 125, 3) := by decide +kernel
theorem dX5_grantAt_24 : decode cX5_grantAt 24 = .ok (.return_, 1) := by decide +kernel
set_option maxRecDepth 20000 in
theorem ggX5_endDay_X0_put : GoodIn wsX5_endDay wsX0_put := goodIn_r _ [14, 15, 16, 17, 18, 19, 20, 21, 22] rfl (by decide +kernel)
set_option maxRecDepth 20000 in
theorem gX5_endDay_X0_put : GoodIn wsX5_endDay (wsV RX5 125 RX0 yX0_put wsX0_put) := goodIn_app (goodIn_of _ (by decide +kernel)) ggX5_endDay_X0_put
theorem dX5_endDay_0 : decode cX5_endDay 0 = .ok (.aload_n 1, 1) := by decide +kernel
theorem dX5_endDay_1 : decode cX5_endDay 1 = .ok (.aload_n 1, 1) := by decide +kernel
theorem dX5_endDay_2 : decode cX5_endDay 2 = .ok (.getfield 115, 3) := by decide +kernel
theorem dX5_endDay_5 : decode cX5_endDay 5 = .ok (.aload_n 0, 1) := by decide +kernel
theorem dX5_endDay_6 : decode cX5_endDay 6 = .ok (.getfield 67, 3) := by decide +kernel
theorem dX5_endDay_9 : decode cX5_endDay 9 = .ok (.iconst (-1), 1) := by decide +kernel
theorem dX5_endDay_10 : decode cX5_endDay 10 = .ok (.ixor, 1) := by decide +kernel
theorem dX5_endDay_11 : decode cX5_endDay 11 = .ok (.iand, 1) := by decide +kernel
theorem dX5_endDay_12 : decode cX5_endDay 12 = .ok (.iconst 0, 1) := by decide +kernel
theorem dX5_endDay_13 : decode cX5_endDay 13 = .ok (.aload_n 1, 1) := by decide +kernel
theorem dX5_endDay_14 : decode cX5_endDay 14 = .ok (.getfield 106, 3) := by decide +kernel
theorem dX5_endDay_17 : decode cX5_endDay 17 = .ok (.aload_n 0, 1) := by decide +kernel
theorem dX5_endDay_18 : decode cX5_endDay 18 = .ok (.getfield 73, 3) := by decide +kernel
theorem dX5_endDay_21 : decode cX5_endDay 21 = .ok (.isub, 1) := by decide +kernel
theorem dX5_endDay_22 : decode cX5_endDay 22 = .ok (.invokestatic 103, 3) := by decide +kernel
theorem dX5_endDay_25 : decode cX5_endDay 25 = .ok (.iconst 0, 1) := by decide +kernel
theorem dX5_endDay_26 : decode cX5_endDay 26 = .ok (.aload_n 1, 1) := by decide +kernel
theorem dX5_endDay_27 : decode cX5_endDay 27 = .ok (.getfield 122, 3) := by decide +kernel
theorem dX5_endDay_30 : decode cX5_endDay 30 = .ok (.iconst 1, 1) := by decide +kernel
theorem dX5_endDay_31 : decode cX5_endDay 31 = .ok (.iadd, 1) := by decide +kernel
theorem dX5_endDay_32 : decode cX5_endDay 32 = .ok (.invokevirtual 125, 3) := by decide +kernel
theorem dX5_endDay_35 : decode cX5_endDay 35 = .ok (.return_, 1) := by decide +kernel
set_option maxRecDepth 20000 in
theorem ggX5_whyNot_X5_roomOf : GoodIn wsX5_whyNot wsX5_roomOf := goodIn_r _ [6, 7, 8, 9, 10, 11, 12, 13, 14, 15, 16, 5, 17, 18, 19, 20, 21, 22, 23, 24, 25, 26, 27, 28, 29, 30, 31, 32, 1, 33, 34, 35, 36, 37, 38, 39, 40, 41, 42, 43, 44, 45, 46, 47, 48, 49, 50, 51, 52, 53, 54, 55, 56, 57, 58, 59, 60, 61, 62, 63, 64, 65, 66, 67, 68, 69, 70, 71, 72, 73, 74, 75, 76, 77, 96, 97, 98, 99, 100, 101, 102, 103, 104, 105, 106, 107, 108, 109, 110, 111, 112, 113, 114, 115, 92, 93, 94, 95] rfl (by decide +kernel)
set_option maxRecDepth 20000 in
theorem gX5_whyNot_X5_roomOf : GoodIn wsX5_whyNot (wsV RX5 129 RX5 yX5_roomOf wsX5_roomOf) := goodIn_app (goodIn_of _ (by decide +kernel)) ggX5_whyNot_X5_roomOf
set_option maxRecDepth 20000 in
theorem ggX5_whyNot_X5_whyNotYet : GoodIn wsX5_whyNot wsX5_whyNotYet := goodIn_r _ [81, 53, 82, 83, 59, 84, 85, 86, 5, 87, 49, 50, 51, 52, 54, 55, 56, 57, 58, 36, 60, 96, 97, 98, 99, 100, 101, 102, 103, 104, 105, 106, 107, 108, 109, 110, 111, 112, 113, 114, 115] rfl (by decide +kernel)
set_option maxRecDepth 20000 in
theorem gX5_whyNot_X5_whyNotYet : GoodIn wsX5_whyNot (wsV RX5 133 RX5 yX5_whyNotYet wsX5_whyNotYet) := goodIn_app (goodIn_of _ (by decide +kernel)) ggX5_whyNot_X5_whyNotYet
set_option maxRecDepth 20000 in
theorem ggX5_whyNot_X5_isContent : GoodIn wsX5_whyNot wsX5_isContent := goodIn_r _ [91, 14, 15, 16, 5, 17, 18, 19, 20, 21, 22, 23, 24, 7, 8, 9, 10, 25, 26, 27, 28, 29, 30, 31, 32, 1, 33, 34, 35, 36, 37, 38, 39, 40, 41, 42, 43, 44, 45, 46, 47, 48, 49, 50, 51, 52, 53, 54, 55, 56, 57, 58, 59, 60, 61, 62, 63, 11, 12, 13, 64, 65, 66, 67, 68, 69, 70, 71, 72, 73, 74, 75, 76, 77, 96, 97, 98, 99, 100, 101, 102, 103, 104, 105, 106, 107, 108, 109, 110, 111, 112, 113, 114, 115, 92, 93, 94, 95] rfl (by decide +kernel)
set_option maxRecDepth 20000 in
theorem gX5_whyNot_X5_isContent : GoodIn wsX5_whyNot (wsV RX5 137 RX5 yX5_isContent wsX5_isContent) := goodIn_app (goodIn_of _ (by decide +kernel)) ggX5_whyNot_X5_isContent
theorem dX5_whyNot_0 : decode cX5_whyNot 0 = .ok (.aload_n 0, 1) := by decide +kernel
theorem dX5_whyNot_1 : decode cX5_whyNot 1 = .ok (.aload_n 1, 1) := by decide +kernel
theorem dX5_whyNot_2 : decode cX5_whyNot 2 = .ok (.getfield 115, 3) := by decide +kernel
theorem dX5_whyNot_5 : decode cX5_whyNot 5 = .ok (.iload_n 2, 1) := by decide +kernel
theorem dX5_whyNot_6 : decode cX5_whyNot 6 = .ok (.aload_n 0, 1) := by decide +kernel
theorem dX5_whyNot_7 : decode cX5_whyNot 7 = .ok (.aload_n 1, 1) := by decide +kernel
theorem dX5_whyNot_8 : decode cX5_whyNot 8 = .ok (.invokevirtual 129, 3) := by decide +kernel
theorem dX5_whyNot_11 : decode cX5_whyNot 11 = .ok (.invokevirtual 133, 3) := by decide +kernel
theorem dX5_whyNot_14 : decode cX5_whyNot 14 = .ok (.istore_n 3, 1) := by decide +kernel
theorem dX5_whyNot_15 : decode cX5_whyNot 15 = .ok (.iload_n 3, 1) := by decide +kernel
theorem dX5_whyNot_16 : decode cX5_whyNot 16 = .ok (.ifCond .eq 5, 3) := by decide +kernel
theorem dX5_whyNot_19 : decode cX5_whyNot 19 = .ok (.iload_n 3, 1) := by decide +kernel
theorem dX5_whyNot_20 : decode cX5_whyNot 20 = .ok (.ireturn, 1) := by decide +kernel
theorem dX5_whyNot_21 : decode cX5_whyNot 21 = .ok (.aload_n 0, 1) := by decide +kernel
theorem dX5_whyNot_22 : decode cX5_whyNot 22 = .ok (.aload_n 1, 1) := by decide +kernel
theorem dX5_whyNot_23 : decode cX5_whyNot 23 = .ok (.invokevirtual 137, 3) := by decide +kernel
theorem dX5_whyNot_26 : decode cX5_whyNot 26 = .ok (.ifCond .eq 7, 3) := by decide +kernel
theorem dX5_whyNot_29 : decode cX5_whyNot 29 = .ok (.iconst 5, 1) := by decide +kernel
theorem dX5_whyNot_30 : decode cX5_whyNot 30 = .ok (.goto 4, 3) := by decide +kernel
theorem dX5_whyNot_33 : decode cX5_whyNot 33 = .ok (.iconst 0, 1) := by decide +kernel
theorem dX5_whyNot_34 : decode cX5_whyNot 34 = .ok (.ireturn, 1) := by decide +kernel
set_option maxRecDepth 20000 in
theorem ggX5_whyNotYet_X5_lengthOf : GoodIn wsX5_whyNotYet wsX5_lengthOf := goodIn_r _ [9, 10, 11, 12, 8, 13, 1, 14, 15, 16, 17, 18, 4, 19, 20, 21, 22, 23, 24, 25, 26, 27, 28, 29, 30, 31, 32, 33, 34, 35, 36, 37, 38, 39, 40] rfl (by decide +kernel)
set_option maxRecDepth 20000 in
theorem gX5_whyNotYet_X5_lengthOf : GoodIn wsX5_whyNotYet (wsV RX5 141 RX5 yX5_lengthOf wsX5_lengthOf) := goodIn_app (goodIn_of _ (by decide +kernel)) ggX5_whyNotYet_X5_lengthOf
theorem dX5_whyNotYet_0 : decode cX5_whyNotYet 0 = .ok (.iload_n 2, 1) := by decide +kernel
theorem dX5_whyNotYet_1 : decode cX5_whyNotYet 1 = .ok (.ifCond .lt 11, 3) := by decide +kernel
theorem dX5_whyNotYet_4 : decode cX5_whyNotYet 4 = .ok (.iload_n 2, 1) := by decide +kernel
theorem dX5_whyNotYet_5 : decode cX5_whyNotYet 5 = .ok (.aload_n 0, 1) := by decide +kernel
theorem dX5_whyNotYet_6 : decode cX5_whyNotYet 6 = .ok (.getfield 64, 3) := by decide +kernel
theorem dX5_whyNotYet_9 : decode cX5_whyNotYet 9 = .ok (.if_icmp .lt 5, 3) := by decide +kernel
theorem dX5_whyNotYet_12 : decode cX5_whyNotYet 12 = .ok (.iconst (-1), 1) := by decide +kernel
theorem dX5_whyNotYet_13 : decode cX5_whyNotYet 13 = .ok (.ireturn, 1) := by decide +kernel
theorem dX5_whyNotYet_14 : decode cX5_whyNotYet 14 = .ok (.iload_n 1, 1) := by decide +kernel
theorem dX5_whyNotYet_15 : decode cX5_whyNotYet 15 = .ok (.aload_n 0, 1) := by decide +kernel
theorem dX5_whyNotYet_16 : decode cX5_whyNotYet 16 = .ok (.getfield 30, 3) := by decide +kernel
theorem dX5_whyNotYet_19 : decode cX5_whyNotYet 19 = .ok (.iload_n 2, 1) := by decide +kernel
theorem dX5_whyNotYet_20 : decode cX5_whyNotYet 20 = .ok (.iaload, 1) := by decide +kernel
theorem dX5_whyNotYet_21 : decode cX5_whyNotYet 21 = .ok (.iand, 1) := by decide +kernel
theorem dX5_whyNotYet_22 : decode cX5_whyNotYet 22 = .ok (.aload_n 0, 1) := by decide +kernel
theorem dX5_whyNotYet_23 : decode cX5_whyNotYet 23 = .ok (.getfield 30, 3) := by decide +kernel
theorem dX5_whyNotYet_26 : decode cX5_whyNotYet 26 = .ok (.iload_n 2, 1) := by decide +kernel
theorem dX5_whyNotYet_27 : decode cX5_whyNotYet 27 = .ok (.iaload, 1) := by decide +kernel
theorem dX5_whyNotYet_28 : decode cX5_whyNotYet 28 = .ok (.if_icmp .eq 5, 3) := by decide +kernel
theorem dX5_whyNotYet_31 : decode cX5_whyNotYet 31 = .ok (.iconst 1, 1) := by decide +kernel
theorem dX5_whyNotYet_32 : decode cX5_whyNotYet 32 = .ok (.ireturn, 1) := by decide +kernel
theorem dX5_whyNotYet_33 : decode cX5_whyNotYet 33 = .ok (.iload_n 1, 1) := by decide +kernel
theorem dX5_whyNotYet_34 : decode cX5_whyNotYet 34 = .ok (.aload_n 0, 1) := by decide +kernel
theorem dX5_whyNotYet_35 : decode cX5_whyNotYet 35 = .ok (.getfield 33, 3) := by decide +kernel
theorem dX5_whyNotYet_38 : decode cX5_whyNotYet 38 = .ok (.iload_n 2, 1) := by decide +kernel
theorem dX5_whyNotYet_39 : decode cX5_whyNotYet 39 = .ok (.iaload, 1) := by decide +kernel
theorem dX5_whyNotYet_40 : decode cX5_whyNotYet 40 = .ok (.iand, 1) := by decide +kernel
theorem dX5_whyNotYet_41 : decode cX5_whyNotYet 41 = .ok (.aload_n 0, 1) := by decide +kernel
theorem dX5_whyNotYet_42 : decode cX5_whyNotYet 42 = .ok (.getfield 33, 3) := by decide +kernel
theorem dX5_whyNotYet_45 : decode cX5_whyNotYet 45 = .ok (.iload_n 2, 1) := by decide +kernel
theorem dX5_whyNotYet_46 : decode cX5_whyNotYet 46 = .ok (.iaload, 1) := by decide +kernel
theorem dX5_whyNotYet_47 : decode cX5_whyNotYet 47 = .ok (.if_icmp .eq 5, 3) := by decide +kernel
theorem dX5_whyNotYet_50 : decode cX5_whyNotYet 50 = .ok (.iconst 2, 1) := by decide +kernel
theorem dX5_whyNotYet_51 : decode cX5_whyNotYet 51 = .ok (.ireturn, 1) := by decide +kernel
theorem dX5_whyNotYet_52 : decode cX5_whyNotYet 52 = .ok (.iload_n 1, 1) := by decide +kernel
theorem dX5_whyNotYet_53 : decode cX5_whyNotYet 53 = .ok (.aload_n 0, 1) := by decide +kernel
theorem dX5_whyNotYet_54 : decode cX5_whyNotYet 54 = .ok (.getfield 27, 3) := by decide +kernel
theorem dX5_whyNotYet_57 : decode cX5_whyNotYet 57 = .ok (.iload_n 2, 1) := by decide +kernel
theorem dX5_whyNotYet_58 : decode cX5_whyNotYet 58 = .ok (.iaload, 1) := by decide +kernel
theorem dX5_whyNotYet_59 : decode cX5_whyNotYet 59 = .ok (.ishr, 1) := by decide +kernel
theorem dX5_whyNotYet_60 : decode cX5_whyNotYet 60 = .ok (.iconst 1, 1) := by decide +kernel
theorem dX5_whyNotYet_61 : decode cX5_whyNotYet 61 = .ok (.iand, 1) := by decide +kernel
theorem dX5_whyNotYet_62 : decode cX5_whyNotYet 62 = .ok (.iconst 1, 1) := by decide +kernel
theorem dX5_whyNotYet_63 : decode cX5_whyNotYet 63 = .ok (.if_icmp .ne 5, 3) := by decide +kernel
theorem dX5_whyNotYet_66 : decode cX5_whyNotYet 66 = .ok (.iconst 3, 1) := by decide +kernel
theorem dX5_whyNotYet_67 : decode cX5_whyNotYet 67 = .ok (.ireturn, 1) := by decide +kernel
theorem dX5_whyNotYet_68 : decode cX5_whyNotYet 68 = .ok (.aload_n 0, 1) := by decide +kernel
theorem dX5_whyNotYet_69 : decode cX5_whyNotYet 69 = .ok (.iload_n 2, 1) := by decide +kernel
theorem dX5_whyNotYet_70 : decode cX5_whyNotYet 70 = .ok (.invokevirtual 141, 3) := by decide +kernel
theorem dX5_whyNotYet_73 : decode cX5_whyNotYet 73 = .ok (.iload_n 3, 1) := by decide +kernel
theorem dX5_whyNotYet_74 : decode cX5_whyNotYet 74 = .ok (.if_icmp .le 7, 3) := by decide +kernel
theorem dX5_whyNotYet_77 : decode cX5_whyNotYet 77 = .ok (.iconst 4, 1) := by decide +kernel
theorem dX5_whyNotYet_78 : decode cX5_whyNotYet 78 = .ok (.goto 4, 3) := by decide +kernel
theorem dX5_whyNotYet_81 : decode cX5_whyNotYet 81 = .ok (.iconst 0, 1) := by decide +kernel
theorem dX5_whyNotYet_82 : decode cX5_whyNotYet 82 = .ok (.ireturn, 1) := by decide +kernel
set_option maxRecDepth 20000 in
theorem ggX5_mayBeSaid_X5_isContent : GoodIn wsX5_mayBeSaid wsX5_isContent := goodIn_r _ [7, 8, 9, 10, 6, 11, 12, 13, 14, 15, 16, 17, 18, 19, 20, 21, 22, 23, 24, 25, 26, 27, 28, 29, 30, 2, 31, 32, 33, 34, 35, 36, 37, 38, 39, 40, 41, 42, 43, 44, 45, 46, 47, 48, 49, 50, 1, 51, 52, 53, 54, 55, 56, 57, 58, 59, 60, 61, 62, 63, 64, 65, 66, 67, 68, 69, 70, 71, 72, 73, 74, 75, 76, 77, 92, 93, 94, 95, 96, 97, 98, 99, 100, 101, 102, 103, 104, 105, 106, 107, 108, 109, 110, 111, 112, 113, 114, 115] rfl (by decide +kernel)
set_option maxRecDepth 20000 in
theorem gX5_mayBeSaid_X5_isContent : GoodIn wsX5_mayBeSaid (wsV RX5 137 RX5 yX5_isContent wsX5_isContent) := goodIn_app (goodIn_of _ (by decide +kernel)) ggX5_mayBeSaid_X5_isContent
set_option maxRecDepth 20000 in
theorem ggX5_mayBeSaid_X5_roomOf : GoodIn wsX5_mayBeSaid wsX5_roomOf := goodIn_r _ [81, 19, 20, 21, 22, 61, 62, 63, 8, 9, 10, 6, 11, 12, 13, 14, 15, 16, 17, 18, 23, 24, 25, 26, 27, 28, 29, 30, 2, 31, 32, 33, 34, 35, 36, 37, 38, 39, 40, 41, 42, 43, 44, 45, 46, 47, 48, 49, 50, 1, 51, 52, 53, 54, 55, 56, 57, 58, 59, 60, 64, 65, 66, 67, 68, 69, 70, 71, 72, 73, 74, 75, 76, 77, 92, 93, 94, 95, 96, 97, 98, 99, 100, 101, 102, 103, 104, 105, 106, 107, 108, 109, 110, 111, 112, 113, 114, 115] rfl (by decide +kernel)
set_option maxRecDepth 20000 in
theorem gX5_mayBeSaid_X5_roomOf : GoodIn wsX5_mayBeSaid (wsV RX5 129 RX5 yX5_roomOf wsX5_roomOf) := goodIn_app (goodIn_of _ (by decide +kernel)) ggX5_mayBeSaid_X5_roomOf
set_option maxRecDepth 20000 in
theorem ggX5_mayBeSaid_X5_whyNotYet : GoodIn wsX5_mayBeSaid wsX5_whyNotYet := goodIn_r _ [85, 1, 86, 87, 56, 88, 89, 90, 6, 91, 47, 48, 49, 50, 51, 52, 53, 54, 55, 34, 57, 92, 93, 94, 95, 96, 97, 98, 99, 100, 101, 102, 103, 104, 105, 106, 107, 108, 109, 110, 111] rfl (by decide +kernel)
set_option maxRecDepth 20000 in
theorem gX5_mayBeSaid_X5_whyNotYet : GoodIn wsX5_mayBeSaid (wsV RX5 133 RX5 yX5_whyNotYet wsX5_whyNotYet) := goodIn_app (goodIn_of _ (by decide +kernel)) ggX5_mayBeSaid_X5_whyNotYet
theorem dX5_mayBeSaid_0 : decode cX5_mayBeSaid 0 = .ok (.aload_n 0, 1) := by decide +kernel
theorem dX5_mayBeSaid_1 : decode cX5_mayBeSaid 1 = .ok (.aload_n 1, 1) := by decide +kernel
theorem dX5_mayBeSaid_2 : decode cX5_mayBeSaid 2 = .ok (.invokevirtual 137, 3) := by decide +kernel
theorem dX5_mayBeSaid_5 : decode cX5_mayBeSaid 5 = .ok (.ifCond .eq 5, 3) := by decide +kernel
theorem dX5_mayBeSaid_8 : decode cX5_mayBeSaid 8 = .ok (.iconst 0, 1) := by decide +kernel
theorem dX5_mayBeSaid_9 : decode cX5_mayBeSaid 9 = .ok (.ireturn, 1) := by decide +kernel
theorem dX5_mayBeSaid_10 : decode cX5_mayBeSaid 10 = .ok (.aload_n 0, 1) := by decide +kernel
theorem dX5_mayBeSaid_11 : decode cX5_mayBeSaid 11 = .ok (.aload_n 1, 1) := by decide +kernel
theorem dX5_mayBeSaid_12 : decode cX5_mayBeSaid 12 = .ok (.invokevirtual 129, 3) := by decide +kernel
theorem dX5_mayBeSaid_15 : decode cX5_mayBeSaid 15 = .ok (.istore_n 2, 1) := by decide +kernel
theorem dX5_mayBeSaid_16 : decode cX5_mayBeSaid 16 = .ok (.iconst 0, 1) := by decide +kernel
theorem dX5_mayBeSaid_17 : decode cX5_mayBeSaid 17 = .ok (.istore_n 3, 1) := by decide +kernel
theorem dX5_mayBeSaid_18 : decode cX5_mayBeSaid 18 = .ok (.iconst 0, 1) := by decide +kernel
theorem dX5_mayBeSaid_19 : decode cX5_mayBeSaid 19 = .ok (.istore 4, 2) := by decide +kernel
theorem dX5_mayBeSaid_21 : decode cX5_mayBeSaid 21 = .ok (.iload 4, 2) := by decide +kernel
theorem dX5_mayBeSaid_23 : decode cX5_mayBeSaid 23 = .ok (.aload_n 0, 1) := by decide +kernel
theorem dX5_mayBeSaid_24 : decode cX5_mayBeSaid 24 = .ok (.getfield 64, 3) := by decide +kernel
theorem dX5_mayBeSaid_27 : decode cX5_mayBeSaid 27 = .ok (.if_icmp .ge 30, 3) := by decide +kernel
theorem dX5_mayBeSaid_30 : decode cX5_mayBeSaid 30 = .ok (.aload_n 0, 1) := by decide +kernel
theorem dX5_mayBeSaid_31 : decode cX5_mayBeSaid 31 = .ok (.aload_n 1, 1) := by decide +kernel
theorem dX5_mayBeSaid_32 : decode cX5_mayBeSaid 32 = .ok (.getfield 115, 3) := by decide +kernel
theorem dX5_mayBeSaid_35 : decode cX5_mayBeSaid 35 = .ok (.iload 4, 2) := by decide +kernel
theorem dX5_mayBeSaid_37 : decode cX5_mayBeSaid 37 = .ok (.iload_n 2, 1) := by decide +kernel
theorem dX5_mayBeSaid_38 : decode cX5_mayBeSaid 38 = .ok (.invokevirtual 133, 3) := by decide +kernel
theorem dX5_mayBeSaid_41 : decode cX5_mayBeSaid 41 = .ok (.ifCond .ne 10, 3) := by decide +kernel
theorem dX5_mayBeSaid_44 : decode cX5_mayBeSaid 44 = .ok (.iload_n 3, 1) := by decide +kernel
theorem dX5_mayBeSaid_45 : decode cX5_mayBeSaid 45 = .ok (.iconst 1, 1) := by decide +kernel
theorem dX5_mayBeSaid_46 : decode cX5_mayBeSaid 46 = .ok (.iload 4, 2) := by decide +kernel
theorem dX5_mayBeSaid_48 : decode cX5_mayBeSaid 48 = .ok (.ishl, 1) := by decide +kernel
theorem dX5_mayBeSaid_49 : decode cX5_mayBeSaid 49 = .ok (.ior, 1) := by decide +kernel
theorem dX5_mayBeSaid_50 : decode cX5_mayBeSaid 50 = .ok (.istore_n 3, 1) := by decide +kernel
theorem dX5_mayBeSaid_51 : decode cX5_mayBeSaid 51 = .ok (.iinc 4 1, 3) := by decide +kernel
theorem dX5_mayBeSaid_54 : decode cX5_mayBeSaid 54 = .ok (.goto (-33), 3) := by decide +kernel
theorem dX5_mayBeSaid_57 : decode cX5_mayBeSaid 57 = .ok (.iload_n 3, 1) := by decide +kernel
theorem dX5_mayBeSaid_58 : decode cX5_mayBeSaid 58 = .ok (.ireturn, 1) := by decide +kernel
set_option maxRecDepth 20000 in
theorem ggX5_reckon_X5_isPart : GoodIn wsX5_reckon wsX5_isPart := goodIn_r _ [12] rfl (by decide +kernel)
set_option maxRecDepth 20000 in
theorem gX5_reckon_X5_isPart : GoodIn wsX5_reckon (va_wsS RX5 144 yX5_isPart wsX5_isPart) := goodIn_app (goodIn_of _ (by decide +kernel)) ggX5_reckon_X5_isPart
set_option maxRecDepth 20000 in
theorem ggX5_reckon_X5_partOf : GoodIn wsX5_reckon wsX5_partOf := goodIn_r _ [16, 17, 18, 19, 20, 21, 22, 23, 24, 11, 25, 26, 27, 28, 29, 30, 31, 32, 33, 34, 35, 36, 37, 38, 39, 40, 41, 42, 43, 44, 45, 86, 87, 88, 89, 66, 67, 68, 69, 70, 71, 72, 73, 74, 75, 76, 77, 78, 79, 80, 81, 82, 83, 84, 85] rfl (by decide +kernel)
set_option maxRecDepth 20000 in
theorem gX5_reckon_X5_partOf : GoodIn wsX5_reckon (wsV RX5 147 RX5 yX5_partOf wsX5_partOf) := goodIn_app (goodIn_of _ (by decide +kernel)) ggX5_reckon_X5_partOf
set_option maxRecDepth 20000 in
theorem ggX5_reckon_X5_joined : GoodIn wsX5_reckon wsX5_joined := goodIn_r _ [48, 3, 4, 5, 6, 49, 50, 51, 52, 53, 11, 54, 55, 56, 57, 58, 59, 60, 61, 62, 63, 64, 65] rfl (by decide +kernel)
set_option maxRecDepth 20000 in
theorem gX5_reckon_X5_joined : GoodIn wsX5_reckon (va_wsS RX5 150 yX5_joined wsX5_joined) := goodIn_app (goodIn_of _ (by decide +kernel)) ggX5_reckon_X5_joined
theorem dX5_reckon_0 : decode cX5_reckon 0 = .ok (.iconst 0, 1) := by decide +kernel
theorem dX5_reckon_1 : decode cX5_reckon 1 = .ok (.istore 4, 2) := by decide +kernel
theorem dX5_reckon_3 : decode cX5_reckon 3 = .ok (.aload_n 0, 1) := by decide +kernel
theorem dX5_reckon_4 : decode cX5_reckon 4 = .ok (.getfield 42, 3) := by decide +kernel
theorem dX5_reckon_7 : decode cX5_reckon 7 = .ok (.iload_n 1, 1) := by decide +kernel
theorem dX5_reckon_8 : decode cX5_reckon 8 = .ok (.iaload, 1) := by decide +kernel
theorem dX5_reckon_9 : decode cX5_reckon 9 = .ok (.aload_n 0, 1) := by decide +kernel
theorem dX5_reckon_10 : decode cX5_reckon 10 = .ok (.getfield 36, 3) := by decide +kernel
theorem dX5_reckon_13 : decode cX5_reckon 13 = .ok (.arraylength, 1) := by decide +kernel
theorem dX5_reckon_14 : decode cX5_reckon 14 = .ok (.invokestatic 97, 3) := by decide +kernel
theorem dX5_reckon_17 : decode cX5_reckon 17 = .ok (.istore 5, 2) := by decide +kernel
theorem dX5_reckon_19 : decode cX5_reckon 19 = .ok (.aload_n 0, 1) := by decide +kernel
theorem dX5_reckon_20 : decode cX5_reckon 20 = .ok (.getfield 39, 3) := by decide +kernel
theorem dX5_reckon_23 : decode cX5_reckon 23 = .ok (.iload_n 1, 1) := by decide +kernel
theorem dX5_reckon_24 : decode cX5_reckon 24 = .ok (.iaload, 1) := by decide +kernel
theorem dX5_reckon_25 : decode cX5_reckon 25 = .ok (.istore 6, 2) := by decide +kernel
theorem dX5_reckon_27 : decode cX5_reckon 27 = .ok (.iload 6, 2) := by decide +kernel
theorem dX5_reckon_29 : decode cX5_reckon 29 = .ok (.iload 5, 2) := by decide +kernel
theorem dX5_reckon_31 : decode cX5_reckon 31 = .ok (.if_icmp .ge 164, 3) := by decide +kernel
theorem dX5_reckon_34 : decode cX5_reckon 34 = .ok (.aload_n 0, 1) := by decide +kernel
theorem dX5_reckon_35 : decode cX5_reckon 35 = .ok (.getfield 36, 3) := by decide +kernel
theorem dX5_reckon_38 : decode cX5_reckon 38 = .ok (.iload 6, 2) := by decide +kernel
theorem dX5_reckon_40 : decode cX5_reckon 40 = .ok (.iaload, 1) := by decide +kernel
theorem dX5_reckon_41 : decode cX5_reckon 41 = .ok (.ineg, 1) := by decide +kernel
theorem dX5_reckon_42 : decode cX5_reckon 42 = .ok (.istore 7, 2) := by decide +kernel
theorem dX5_reckon_44 : decode cX5_reckon 44 = .ok (.iload 7, 2) := by decide +kernel
theorem dX5_reckon_46 : decode cX5_reckon 46 = .ok (.ifCond .le 19, 3) := by decide +kernel
theorem dX5_reckon_49 : decode cX5_reckon 49 = .ok (.iload 7, 2) := by decide +kernel
theorem dX5_reckon_51 : decode cX5_reckon 51 = .ok (.invokestatic 144, 3) := by decide +kernel
theorem dX5_reckon_54 : decode cX5_reckon 54 = .ok (.ifCond .ne 11, 3) := by decide +kernel
theorem dX5_reckon_57 : decode cX5_reckon 57 = .ok (.iload 7, 2) := by decide +kernel
theorem dX5_reckon_59 : decode cX5_reckon 59 = .ok (.sipush 322, 3) := by decide +kernel
theorem dX5_reckon_62 : decode cX5_reckon 62 = .ok (.if_icmp .ne 47, 3) := by decide +kernel
theorem dX5_reckon_65 : decode cX5_reckon 65 = .ok (.iload 4, 2) := by decide +kernel
theorem dX5_reckon_67 : decode cX5_reckon 67 = .ok (.aload_n 0, 1) := by decide +kernel
theorem dX5_reckon_68 : decode cX5_reckon 68 = .ok (.getfield 45, 3) := by decide +kernel
theorem dX5_reckon_71 : decode cX5_reckon 71 = .ok (.arraylength, 1) := by decide +kernel
theorem dX5_reckon_72 : decode cX5_reckon 72 = .ok (.if_icmp .lt 5, 3) := by decide +kernel
theorem dX5_reckon_75 : decode cX5_reckon 75 = .ok (.iconst 0, 1) := by decide +kernel
theorem dX5_reckon_76 : decode cX5_reckon 76 = .ok (.ireturn, 1) := by decide +kernel
theorem dX5_reckon_77 : decode cX5_reckon 77 = .ok (.aload_n 0, 1) := by decide +kernel
theorem dX5_reckon_78 : decode cX5_reckon 78 = .ok (.getfield 45, 3) := by decide +kernel
theorem dX5_reckon_81 : decode cX5_reckon 81 = .ok (.iload 4, 2) := by decide +kernel
theorem dX5_reckon_83 : decode cX5_reckon 83 = .ok (.iload 7, 2) := by decide +kernel
theorem dX5_reckon_85 : decode cX5_reckon 85 = .ok (.ifCond .gt 9, 3) := by decide +kernel
theorem dX5_reckon_88 : decode cX5_reckon 88 = .ok (.iload 7, 2) := by decide +kernel
theorem dX5_reckon_90 : decode cX5_reckon 90 = .ok (.ineg, 1) := by decide +kernel
theorem dX5_reckon_91 : decode cX5_reckon 91 = .ok (.goto 11, 3) := by decide +kernel
theorem dX5_reckon_94 : decode cX5_reckon 94 = .ok (.aload_n 0, 1) := by decide +kernel
theorem dX5_reckon_95 : decode cX5_reckon 95 = .ok (.iload 7, 2) := by decide +kernel
theorem dX5_reckon_97 : decode cX5_reckon 97 = .ok (.aload_n 2, 1) := by decide +kernel
theorem dX5_reckon_98 : decode cX5_reckon 98 = .ok (.iload_n 3, 1) := by decide +kernel
theorem dX5_reckon_99 : decode cX5_reckon 99 = .ok (.invokevirtual 147, 3) := by decide +kernel
theorem dX5_reckon_102 : decode cX5_reckon 102 = .ok (.iastore, 1) := by decide +kernel
theorem dX5_reckon_103 : decode cX5_reckon 103 = .ok (.iinc 4 1, 3) := by decide +kernel
theorem dX5_reckon_106 : decode cX5_reckon 106 = .ok (.goto 83, 3) := by decide +kernel
theorem dX5_reckon_109 : decode cX5_reckon 109 = .ok (.iload 7, 2) := by decide +kernel
theorem dX5_reckon_111 : decode cX5_reckon 111 = .ok (.sipush 321, 3) := by decide +kernel
theorem dX5_reckon_114 : decode cX5_reckon 114 = .ok (.if_icmp .ne 34, 3) := by decide +kernel
theorem dX5_reckon_117 : decode cX5_reckon 117 = .ok (.iload 4, 2) := by decide +kernel
theorem dX5_reckon_119 : decode cX5_reckon 119 = .ok (.iconst 1, 1) := by decide +kernel
theorem dX5_reckon_120 : decode cX5_reckon 120 = .ok (.if_icmp .ge 5, 3) := by decide +kernel
theorem dX5_reckon_123 : decode cX5_reckon 123 = .ok (.iconst 0, 1) := by decide +kernel
theorem dX5_reckon_124 : decode cX5_reckon 124 = .ok (.ireturn, 1) := by decide +kernel
theorem dX5_reckon_125 : decode cX5_reckon 125 = .ok (.aload_n 0, 1) := by decide +kernel
theorem dX5_reckon_126 : decode cX5_reckon 126 = .ok (.getfield 45, 3) := by decide +kernel
theorem dX5_reckon_129 : decode cX5_reckon 129 = .ok (.iload 4, 2) := by decide +kernel
theorem dX5_reckon_131 : decode cX5_reckon 131 = .ok (.iconst 1, 1) := by decide +kernel
theorem dX5_reckon_132 : decode cX5_reckon 132 = .ok (.isub, 1) := by decide +kernel
theorem dX5_reckon_133 : decode cX5_reckon 133 = .ok (.iconst 1, 1) := by decide +kernel
theorem dX5_reckon_134 : decode cX5_reckon 134 = .ok (.aload_n 0, 1) := by decide +kernel
theorem dX5_reckon_135 : decode cX5_reckon 135 = .ok (.getfield 45, 3) := by decide +kernel
theorem dX5_reckon_138 : decode cX5_reckon 138 = .ok (.iload 4, 2) := by decide +kernel
theorem dX5_reckon_140 : decode cX5_reckon 140 = .ok (.iconst 1, 1) := by decide +kernel
theorem dX5_reckon_141 : decode cX5_reckon 141 = .ok (.isub, 1) := by decide +kernel
theorem dX5_reckon_142 : decode cX5_reckon 142 = .ok (.iaload, 1) := by decide +kernel
theorem dX5_reckon_143 : decode cX5_reckon 143 = .ok (.isub, 1) := by decide +kernel
theorem dX5_reckon_144 : decode cX5_reckon 144 = .ok (.iastore, 1) := by decide +kernel
theorem dX5_reckon_145 : decode cX5_reckon 145 = .ok (.goto 44, 3) := by decide +kernel
theorem dX5_reckon_148 : decode cX5_reckon 148 = .ok (.iload 4, 2) := by decide +kernel
theorem dX5_reckon_150 : decode cX5_reckon 150 = .ok (.iconst 2, 1) := by decide +kernel
theorem dX5_reckon_151 : decode cX5_reckon 151 = .ok (.if_icmp .ge 5, 3) := by decide +kernel
theorem dX5_reckon_154 : decode cX5_reckon 154 = .ok (.iconst 0, 1) := by decide +kernel
theorem dX5_reckon_155 : decode cX5_reckon 155 = .ok (.ireturn, 1) := by decide +kernel
theorem dX5_reckon_156 : decode cX5_reckon 156 = .ok (.iinc 4 (-1), 3) := by decide +kernel
theorem dX5_reckon_159 : decode cX5_reckon 159 = .ok (.aload_n 0, 1) := by decide +kernel
theorem dX5_reckon_160 : decode cX5_reckon 160 = .ok (.getfield 45, 3) := by decide +kernel
theorem dX5_reckon_163 : decode cX5_reckon 163 = .ok (.iload 4, 2) := by decide +kernel
theorem dX5_reckon_165 : decode cX5_reckon 165 = .ok (.iconst 1, 1) := by decide +kernel
theorem dX5_reckon_166 : decode cX5_reckon 166 = .ok (.isub, 1) := by decide +kernel
theorem dX5_reckon_167 : decode cX5_reckon 167 = .ok (.iload 7, 2) := by decide +kernel
theorem dX5_reckon_169 : decode cX5_reckon 169 = .ok (.aload_n 0, 1) := by decide +kernel
theorem dX5_reckon_170 : decode cX5_reckon 170 = .ok (.getfield 45, 3) := by decide +kernel
theorem dX5_reckon_173 : decode cX5_reckon 173 = .ok (.iload 4, 2) := by decide +kernel
theorem dX5_reckon_175 : decode cX5_reckon 175 = .ok (.iconst 1, 1) := by decide +kernel
theorem dX5_reckon_176 : decode cX5_reckon 176 = .ok (.isub, 1) := by decide +kernel
theorem dX5_reckon_177 : decode cX5_reckon 177 = .ok (.iaload, 1) := by decide +kernel
theorem dX5_reckon_178 : decode cX5_reckon 178 = .ok (.aload_n 0, 1) := by decide +kernel
theorem dX5_reckon_179 : decode cX5_reckon 179 = .ok (.getfield 45, 3) := by decide +kernel
theorem dX5_reckon_182 : decode cX5_reckon 182 = .ok (.iload 4, 2) := by decide +kernel
theorem dX5_reckon_184 : decode cX5_reckon 184 = .ok (.iaload, 1) := by decide +kernel
theorem dX5_reckon_185 : decode cX5_reckon 185 = .ok (.invokestatic 150, 3) := by decide +kernel
theorem dX5_reckon_188 : decode cX5_reckon 188 = .ok (.iastore, 1) := by decide +kernel
theorem dX5_reckon_189 : decode cX5_reckon 189 = .ok (.iinc 6 1, 3) := by decide +kernel
theorem dX5_reckon_192 : decode cX5_reckon 192 = .ok (.goto (-165), 3) := by decide +kernel
theorem dX5_reckon_195 : decode cX5_reckon 195 = .ok (.iload 4, 2) := by decide +kernel
theorem dX5_reckon_197 : decode cX5_reckon 197 = .ok (.ifCond .le 12, 3) := by decide +kernel
theorem dX5_reckon_200 : decode cX5_reckon 200 = .ok (.aload_n 0, 1) := by decide +kernel
theorem dX5_reckon_201 : decode cX5_reckon 201 = .ok (.getfield 45, 3) := by decide +kernel
theorem dX5_reckon_204 : decode cX5_reckon 204 = .ok (.iconst 0, 1) := by decide +kernel
theorem dX5_reckon_205 : decode cX5_reckon 205 = .ok (.iaload, 1) := by decide +kernel
theorem dX5_reckon_206 : decode cX5_reckon 206 = .ok (.goto 4, 3) := by decide +kernel
theorem dX5_reckon_209 : decode cX5_reckon 209 = .ok (.iconst 0, 1) := by decide +kernel
theorem dX5_reckon_210 : decode cX5_reckon 210 = .ok (.ireturn, 1) := by decide +kernel
set_option maxRecDepth 20000 in
theorem ggX5_partOf_X5_worthOf : GoodIn wsX5_partOf wsX5_worthOf := goodIn_r _ [10, 5, 11, 35, 36, 37, 38, 39, 40, 41, 42, 43, 44, 45, 46, 47, 48, 49, 50, 51, 52, 53, 54] rfl (by decide +kernel)
set_option maxRecDepth 20000 in
theorem gX5_partOf_X5_worthOf : GoodIn wsX5_partOf (wsV RX5 79 RX5 yX5_worthOf wsX5_worthOf) := goodIn_app (goodIn_of _ (by decide +kernel)) ggX5_partOf_X5_worthOf
set_option maxRecDepth 20000 in
theorem ggX5_partOf_J6_bitCount_0f7a4 : GoodIn wsX5_partOf wsJ6_bitCount_0f7a4 := goodIn_r _ [15, 16, 17, 18] rfl (by decide +kernel)
set_option maxRecDepth 20000 in
theorem gX5_partOf_J6_bitCount_0f7a4 : GoodIn wsX5_partOf (va_wsS RX5 153 yJ6_bitCount_0f7a4 wsJ6_bitCount_0f7a4) := goodIn_app (goodIn_of _ (by decide +kernel)) ggX5_partOf_J6_bitCount_0f7a4
set_option maxRecDepth 20000 in
theorem ggX5_partOf_X5_wordsOf : GoodIn wsX5_partOf wsX5_wordsOf := goodIn_r _ [22, 23, 24, 35, 36, 37, 38, 39, 40, 41, 42, 43, 44, 45, 46, 47, 48, 49, 50, 51, 52, 53, 54] rfl (by decide +kernel)
set_option maxRecDepth 20000 in
theorem gX5_partOf_X5_wordsOf : GoodIn wsX5_partOf (wsV RX5 83 RX5 yX5_wordsOf wsX5_wordsOf) := goodIn_app (goodIn_of _ (by decide +kernel)) ggX5_partOf_X5_wordsOf
set_option maxRecDepth 20000 in
theorem ggX5_partOf_X5_rhymeOf : GoodIn wsX5_partOf wsX5_rhymeOf := goodIn_r _ [28, 23, 29, 5, 30, 35, 36, 37, 38, 39, 40, 41, 42, 43, 44, 45, 46, 47, 48, 49, 50, 51, 52, 53, 54] rfl (by decide +kernel)
set_option maxRecDepth 20000 in
theorem gX5_partOf_X5_rhymeOf : GoodIn wsX5_partOf (wsV RX5 86 RX5 yX5_rhymeOf wsX5_rhymeOf) := goodIn_app (goodIn_of _ (by decide +kernel)) ggX5_partOf_X5_rhymeOf
theorem dX5_partOf_0 : decode cX5_partOf 0 = .ok (.iload_n 1, 1) := by decide +kernel
theorem dX5_partOf_1 : decode cX5_partOf 1 = .ok (.tableswitch 168 301 322 #[103, 141, 168, 168, 135, 168, 168, 168, 168, 168, 168, 168, 168, 168, 112, 120, 125, 130, 168, 168, 168, 147], 103) := by decide +kernel
theorem dX5_partOf_104 : decode cX5_partOf 104 = .ok (.aload_n 0, 1) := by decide +kernel
theorem dX5_partOf_105 : decode cX5_partOf 105 = .ok (.aload_n 2, 1) := by decide +kernel
theorem dX5_partOf_106 : decode cX5_partOf 106 = .ok (.getfield 115, 3) := by decide +kernel
theorem dX5_partOf_109 : decode cX5_partOf 109 = .ok (.invokevirtual 79, 3) := by decide +kernel
theorem dX5_partOf_112 : decode cX5_partOf 112 = .ok (.ireturn, 1) := by decide +kernel
theorem dX5_partOf_113 : decode cX5_partOf 113 = .ok (.aload_n 2, 1) := by decide +kernel
theorem dX5_partOf_114 : decode cX5_partOf 114 = .ok (.getfield 115, 3) := by decide +kernel
theorem dX5_partOf_117 : decode cX5_partOf 117 = .ok (.invokestatic 153, 3) := by decide +kernel
theorem dX5_partOf_120 : decode cX5_partOf 120 = .ok (.ireturn, 1) := by decide +kernel
theorem dX5_partOf_121 : decode cX5_partOf 121 = .ok (.aload_n 2, 1) := by decide +kernel
theorem dX5_partOf_122 : decode cX5_partOf 122 = .ok (.getfield 106, 3) := by decide +kernel
theorem dX5_partOf_125 : decode cX5_partOf 125 = .ok (.ireturn, 1) := by decide +kernel
theorem dX5_partOf_126 : decode cX5_partOf 126 = .ok (.aload_n 2, 1) := by decide +kernel
theorem dX5_partOf_127 : decode cX5_partOf 127 = .ok (.getfield 119, 3) := by decide +kernel
theorem dX5_partOf_130 : decode cX5_partOf 130 = .ok (.ireturn, 1) := by decide +kernel
theorem dX5_partOf_131 : decode cX5_partOf 131 = .ok (.aload_n 2, 1) := by decide +kernel
theorem dX5_partOf_132 : decode cX5_partOf 132 = .ok (.getfield 122, 3) := by decide +kernel
theorem dX5_partOf_135 : decode cX5_partOf 135 = .ok (.ireturn, 1) := by decide +kernel
theorem dX5_partOf_136 : decode cX5_partOf 136 = .ok (.aload_n 0, 1) := by decide +kernel
theorem dX5_partOf_137 : decode cX5_partOf 137 = .ok (.iload_n 3, 1) := by decide +kernel
theorem dX5_partOf_138 : decode cX5_partOf 138 = .ok (.invokevirtual 83, 3) := by decide +kernel
theorem dX5_partOf_141 : decode cX5_partOf 141 = .ok (.ireturn, 1) := by decide +kernel
theorem dX5_partOf_142 : decode cX5_partOf 142 = .ok (.aload_n 0, 1) := by decide +kernel
theorem dX5_partOf_143 : decode cX5_partOf 143 = .ok (.iload_n 3, 1) := by decide +kernel
theorem dX5_partOf_144 : decode cX5_partOf 144 = .ok (.invokevirtual 86, 3) := by decide +kernel
theorem dX5_partOf_147 : decode cX5_partOf 147 = .ok (.ireturn, 1) := by decide +kernel
theorem dX5_partOf_148 : decode cX5_partOf 148 = .ok (.aload_n 2, 1) := by decide +kernel
theorem dX5_partOf_149 : decode cX5_partOf 149 = .ok (.getfield 115, 3) := by decide +kernel
theorem dX5_partOf_152 : decode cX5_partOf 152 = .ok (.iconst 1, 1) := by decide +kernel
theorem dX5_partOf_153 : decode cX5_partOf 153 = .ok (.aload_n 0, 1) := by decide +kernel
theorem dX5_partOf_154 : decode cX5_partOf 154 = .ok (.getfield 61, 3) := by decide +kernel
theorem dX5_partOf_157 : decode cX5_partOf 157 = .ok (.ishl, 1) := by decide +kernel
theorem dX5_partOf_158 : decode cX5_partOf 158 = .ok (.iconst 1, 1) := by decide +kernel
theorem dX5_partOf_159 : decode cX5_partOf 159 = .ok (.isub, 1) := by decide +kernel
theorem dX5_partOf_160 : decode cX5_partOf 160 = .ok (.if_icmp .ne 7, 3) := by decide +kernel
theorem dX5_partOf_163 : decode cX5_partOf 163 = .ok (.iconst 1, 1) := by decide +kernel
theorem dX5_partOf_164 : decode cX5_partOf 164 = .ok (.goto 4, 3) := by decide +kernel
theorem dX5_partOf_167 : decode cX5_partOf 167 = .ok (.iconst 0, 1) := by decide +kernel
theorem dX5_partOf_168 : decode cX5_partOf 168 = .ok (.ireturn, 1) := by decide +kernel
theorem dX5_partOf_169 : decode cX5_partOf 169 = .ok (.iconst 0, 1) := by decide +kernel
theorem dX5_partOf_170 : decode cX5_partOf 170 = .ok (.ireturn, 1) := by decide +kernel
set_option maxRecDepth 20000 in
theorem ggX5_joined_X5_within : GoodIn wsX5_joined wsX5_within := goodIn_r _ [11, 12, 13, 14, 15] rfl (by decide +kernel)
set_option maxRecDepth 20000 in
theorem gX5_joined_X5_within : GoodIn wsX5_joined (va_wsS RX5 158 yX5_within wsX5_within) := goodIn_app (goodIn_of _ (by decide +kernel)) ggX5_joined_X5_within
set_option maxRecDepth 20000 in
theorem ggX5_joined_J9_floorDiv_7cf53 : GoodIn wsX5_joined wsJ9_floorDiv_7cf53 := goodIn_r _ [19] rfl (by decide +kernel)
set_option maxRecDepth 20000 in
theorem gX5_joined_J9_floorDiv_7cf53 : GoodIn wsX5_joined (va_wsS RX5 162 yJ9_floorDiv_7cf53 wsJ9_floorDiv_7cf53) := goodIn_app (goodIn_of _ (by decide +kernel)) ggX5_joined_J9_floorDiv_7cf53
set_option maxRecDepth 20000 in
theorem ggX5_joined_J9_floorMod_7cf53 : GoodIn wsX5_joined wsJ9_floorMod_7cf53 := goodIn_r _ [22] rfl (by decide +kernel)
set_option maxRecDepth 20000 in
theorem gX5_joined_J9_floorMod_7cf53 : GoodIn wsX5_joined (va_wsS RX5 165 yJ9_floorMod_7cf53 wsJ9_floorMod_7cf53) := goodIn_app (goodIn_of _ (by decide +kernel)) ggX5_joined_J9_floorMod_7cf53
theorem dX5_joined_0 : decode cX5_joined 0 = .ok (.iload_n 0, 1) := by decide +kernel
theorem dX5_joined_1 : decode cX5_joined 1 = .ok (.lookupswitch 223 #[(37, 152), (42, 125), (43, 107), (45, 116), (47, 134), (60, 182), (61, 204), (62, 193), (319, 219), (320, 215), (323, 170), (324, 176)], 107) := by decide +kernel
theorem dX5_joined_108 : decode cX5_joined 108 = .ok (.iload_n 1, 1) := by decide +kernel
theorem dX5_joined_109 : decode cX5_joined 109 = .ok (.i2l, 1) := by decide +kernel
theorem dX5_joined_110 : decode cX5_joined 110 = .ok (.iload_n 2, 1) := by decide +kernel
theorem dX5_joined_111 : decode cX5_joined 111 = .ok (.i2l, 1) := by decide +kernel
theorem dX5_joined_112 : decode cX5_joined 112 = .ok (.ladd, 1) := by decide +kernel
theorem dX5_joined_113 : decode cX5_joined 113 = .ok (.invokestatic 158, 3) := by decide +kernel
theorem dX5_joined_116 : decode cX5_joined 116 = .ok (.ireturn, 1) := by decide +kernel
theorem dX5_joined_117 : decode cX5_joined 117 = .ok (.iload_n 1, 1) := by decide +kernel
theorem dX5_joined_118 : decode cX5_joined 118 = .ok (.i2l, 1) := by decide +kernel
theorem dX5_joined_119 : decode cX5_joined 119 = .ok (.iload_n 2, 1) := by decide +kernel
theorem dX5_joined_120 : decode cX5_joined 120 = .ok (.i2l, 1) := by decide +kernel
theorem dX5_joined_121 : decode cX5_joined 121 = .ok (.lsub, 1) := by decide +kernel
theorem dX5_joined_122 : decode cX5_joined 122 = .ok (.invokestatic 158, 3) := by decide +kernel
theorem dX5_joined_125 : decode cX5_joined 125 = .ok (.ireturn, 1) := by decide +kernel
theorem dX5_joined_126 : decode cX5_joined 126 = .ok (.iload_n 1, 1) := by decide +kernel
theorem dX5_joined_127 : decode cX5_joined 127 = .ok (.i2l, 1) := by decide +kernel
theorem dX5_joined_128 : decode cX5_joined 128 = .ok (.iload_n 2, 1) := by decide +kernel
theorem dX5_joined_129 : decode cX5_joined 129 = .ok (.i2l, 1) := by decide +kernel
theorem dX5_joined_130 : decode cX5_joined 130 = .ok (.lmul, 1) := by decide +kernel
theorem dX5_joined_131 : decode cX5_joined 131 = .ok (.invokestatic 158, 3) := by decide +kernel
theorem dX5_joined_134 : decode cX5_joined 134 = .ok (.ireturn, 1) := by decide +kernel
theorem dX5_joined_135 : decode cX5_joined 135 = .ok (.iload_n 2, 1) := by decide +kernel
theorem dX5_joined_136 : decode cX5_joined 136 = .ok (.ifCond .ne 7, 3) := by decide +kernel
theorem dX5_joined_139 : decode cX5_joined 139 = .ok (.iconst 0, 1) := by decide +kernel
theorem dX5_joined_140 : decode cX5_joined 140 = .ok (.goto 12, 3) := by decide +kernel
theorem dX5_joined_143 : decode cX5_joined 143 = .ok (.iload_n 1, 1) := by decide +kernel
theorem dX5_joined_144 : decode cX5_joined 144 = .ok (.iload_n 2, 1) := by decide +kernel
theorem dX5_joined_145 : decode cX5_joined 145 = .ok (.invokestatic 162, 3) := by decide +kernel
theorem dX5_joined_148 : decode cX5_joined 148 = .ok (.i2l, 1) := by decide +kernel
theorem dX5_joined_149 : decode cX5_joined 149 = .ok (.invokestatic 158, 3) := by decide +kernel
theorem dX5_joined_152 : decode cX5_joined 152 = .ok (.ireturn, 1) := by decide +kernel
theorem dX5_joined_153 : decode cX5_joined 153 = .ok (.iload_n 2, 1) := by decide +kernel
theorem dX5_joined_154 : decode cX5_joined 154 = .ok (.ifCond .ne 7, 3) := by decide +kernel
theorem dX5_joined_157 : decode cX5_joined 157 = .ok (.iconst 0, 1) := by decide +kernel
theorem dX5_joined_158 : decode cX5_joined 158 = .ok (.goto 12, 3) := by decide +kernel
theorem dX5_joined_161 : decode cX5_joined 161 = .ok (.iload_n 1, 1) := by decide +kernel
theorem dX5_joined_162 : decode cX5_joined 162 = .ok (.iload_n 2, 1) := by decide +kernel
theorem dX5_joined_163 : decode cX5_joined 163 = .ok (.invokestatic 165, 3) := by decide +kernel
theorem dX5_joined_166 : decode cX5_joined 166 = .ok (.i2l, 1) := by decide +kernel
theorem dX5_joined_167 : decode cX5_joined 167 = .ok (.invokestatic 158, 3) := by decide +kernel
theorem dX5_joined_170 : decode cX5_joined 170 = .ok (.ireturn, 1) := by decide +kernel
theorem dX5_joined_171 : decode cX5_joined 171 = .ok (.iload_n 1, 1) := by decide +kernel
theorem dX5_joined_172 : decode cX5_joined 172 = .ok (.iload_n 2, 1) := by decide +kernel
theorem dX5_joined_173 : decode cX5_joined 173 = .ok (.invokestatic 97, 3) := by decide +kernel
theorem dX5_joined_176 : decode cX5_joined 176 = .ok (.ireturn, 1) := by decide +kernel
theorem dX5_joined_177 : decode cX5_joined 177 = .ok (.iload_n 1, 1) := by decide +kernel
theorem dX5_joined_178 : decode cX5_joined 178 = .ok (.iload_n 2, 1) := by decide +kernel
theorem dX5_joined_179 : decode cX5_joined 179 = .ok (.invokestatic 103, 3) := by decide +kernel
theorem dX5_joined_182 : decode cX5_joined 182 = .ok (.ireturn, 1) := by decide +kernel
theorem dX5_joined_183 : decode cX5_joined 183 = .ok (.iload_n 1, 1) := by decide +kernel
theorem dX5_joined_184 : decode cX5_joined 184 = .ok (.iload_n 2, 1) := by decide +kernel
theorem dX5_joined_185 : decode cX5_joined 185 = .ok (.if_icmp .ge 7, 3) := by decide +kernel
theorem dX5_joined_188 : decode cX5_joined 188 = .ok (.iconst 1, 1) := by decide +kernel
theorem dX5_joined_189 : decode cX5_joined 189 = .ok (.goto 4, 3) := by decide +kernel
theorem dX5_joined_192 : decode cX5_joined 192 = .ok (.iconst 0, 1) := by decide +kernel
theorem dX5_joined_193 : decode cX5_joined 193 = .ok (.ireturn, 1) := by decide +kernel
theorem dX5_joined_194 : decode cX5_joined 194 = .ok (.iload_n 1, 1) := by decide +kernel
theorem dX5_joined_195 : decode cX5_joined 195 = .ok (.iload_n 2, 1) := by decide +kernel
theorem dX5_joined_196 : decode cX5_joined 196 = .ok (.if_icmp .le 7, 3) := by decide +kernel
theorem dX5_joined_199 : decode cX5_joined 199 = .ok (.iconst 1, 1) := by decide +kernel
theorem dX5_joined_200 : decode cX5_joined 200 = .ok (.goto 4, 3) := by decide +kernel
theorem dX5_joined_203 : decode cX5_joined 203 = .ok (.iconst 0, 1) := by decide +kernel
theorem dX5_joined_204 : decode cX5_joined 204 = .ok (.ireturn, 1) := by decide +kernel
theorem dX5_joined_205 : decode cX5_joined 205 = .ok (.iload_n 1, 1) := by decide +kernel
theorem dX5_joined_206 : decode cX5_joined 206 = .ok (.iload_n 2, 1) := by decide +kernel
theorem dX5_joined_207 : decode cX5_joined 207 = .ok (.if_icmp .ne 7, 3) := by decide +kernel
theorem dX5_joined_210 : decode cX5_joined 210 = .ok (.iconst 1, 1) := by decide +kernel
theorem dX5_joined_211 : decode cX5_joined 211 = .ok (.goto 4, 3) := by decide +kernel
theorem dX5_joined_214 : decode cX5_joined 214 = .ok (.iconst 0, 1) := by decide +kernel
theorem dX5_joined_215 : decode cX5_joined 215 = .ok (.ireturn, 1) := by decide +kernel
theorem dX5_joined_216 : decode cX5_joined 216 = .ok (.iload_n 1, 1) := by decide +kernel
theorem dX5_joined_217 : decode cX5_joined 217 = .ok (.iload_n 2, 1) := by decide +kernel
theorem dX5_joined_218 : decode cX5_joined 218 = .ok (.iand, 1) := by decide +kernel
theorem dX5_joined_219 : decode cX5_joined 219 = .ok (.ireturn, 1) := by decide +kernel
theorem dX5_joined_220 : decode cX5_joined 220 = .ok (.iload_n 1, 1) := by decide +kernel
theorem dX5_joined_221 : decode cX5_joined 221 = .ok (.iload_n 2, 1) := by decide +kernel
theorem dX5_joined_222 : decode cX5_joined 222 = .ok (.ior, 1) := by decide +kernel
theorem dX5_joined_223 : decode cX5_joined 223 = .ok (.ireturn, 1) := by decide +kernel
theorem dX5_joined_224 : decode cX5_joined 224 = .ok (.iconst 0, 1) := by decide +kernel
theorem dX5_joined_225 : decode cX5_joined 225 = .ok (.ireturn, 1) := by decide +kernel
theorem dX5_within_0 : decode cX5_within 0 = .ok (.lload_n 0, 1) := by decide +kernel
theorem dX5_within_1 : decode cX5_within 1 = .ok (.ldc2_w 168, 3) := by decide +kernel
theorem dX5_within_4 : decode cX5_within 4 = .ok (.lcmp, 1) := by decide +kernel
theorem dX5_within_5 : decode cX5_within 5 = .ok (.ifCond .le 6, 3) := by decide +kernel
theorem dX5_within_8 : decode cX5_within 8 = .ok (.ldc 170, 2) := by decide +kernel
theorem dX5_within_10 : decode cX5_within 10 = .ok (.ireturn, 1) := by decide +kernel
theorem dX5_within_11 : decode cX5_within 11 = .ok (.lload_n 0, 1) := by decide +kernel
theorem dX5_within_12 : decode cX5_within 12 = .ok (.ldc2_w 171, 3) := by decide +kernel
theorem dX5_within_15 : decode cX5_within 15 = .ok (.lcmp, 1) := by decide +kernel
theorem dX5_within_16 : decode cX5_within 16 = .ok (.ifCond .ge 8, 3) := by decide +kernel
theorem dX5_within_19 : decode cX5_within 19 = .ok (.ldc 173, 2) := by decide +kernel
theorem dX5_within_21 : decode cX5_within 21 = .ok (.goto 5, 3) := by decide +kernel
theorem dX5_within_24 : decode cX5_within 24 = .ok (.lload_n 0, 1) := by decide +kernel
theorem dX5_within_25 : decode cX5_within 25 = .ok (.l2i, 1) := by decide +kernel
theorem dX5_within_26 : decode cX5_within 26 = .ok (.ireturn, 1) := by decide +kernel
theorem dX5_isPart_0 : decode cX5_isPart 0 = .ok (.iload_n 0, 1) := by decide +kernel
theorem dX5_isPart_1 : decode cX5_isPart 1 = .ok (.sipush 301, 3) := by decide +kernel
theorem dX5_isPart_4 : decode cX5_isPart 4 = .ok (.if_icmp .eq 31, 3) := by decide +kernel
theorem dX5_isPart_7 : decode cX5_isPart 7 = .ok (.iload_n 0, 1) := by decide +kernel
theorem dX5_isPart_8 : decode cX5_isPart 8 = .ok (.sipush 305, 3) := by decide +kernel
theorem dX5_isPart_11 : decode cX5_isPart 11 = .ok (.if_icmp .eq 24, 3) := by decide +kernel
theorem dX5_isPart_14 : decode cX5_isPart 14 = .ok (.iload_n 0, 1) := by decide +kernel
theorem dX5_isPart_15 : decode cX5_isPart 15 = .ok (.sipush 302, 3) := by decide +kernel
theorem dX5_isPart_18 : decode cX5_isPart 18 = .ok (.if_icmp .eq 17, 3) := by decide +kernel
theorem dX5_isPart_21 : decode cX5_isPart 21 = .ok (.iload_n 0, 1) := by decide +kernel
theorem dX5_isPart_22 : decode cX5_isPart 22 = .ok (.sipush 315, 3) := by decide +kernel
theorem dX5_isPart_25 : decode cX5_isPart 25 = .ok (.if_icmp .lt 14, 3) := by decide +kernel
theorem dX5_isPart_28 : decode cX5_isPart 28 = .ok (.iload_n 0, 1) := by decide +kernel
theorem dX5_isPart_29 : decode cX5_isPart 29 = .ok (.sipush 318, 3) := by decide +kernel
theorem dX5_isPart_32 : decode cX5_isPart 32 = .ok (.if_icmp .gt 7, 3) := by decide +kernel
theorem dX5_isPart_35 : decode cX5_isPart 35 = .ok (.iconst 1, 1) := by decide +kernel
theorem dX5_isPart_36 : decode cX5_isPart 36 = .ok (.goto 4, 3) := by decide +kernel
theorem dX5_isPart_39 : decode cX5_isPart 39 = .ok (.iconst 0, 1) := by decide +kernel
theorem dX5_isPart_40 : decode cX5_isPart 40 = .ok (.ireturn, 1) := by decide +kernel
set_option maxRecDepth 20000 in
theorem ggX6_init_X5_init : GoodIn wsX6_init wsX5_init := goodIn_r _ [38, 39, 2, 3, 4, 40, 41, 42, 43, 44, 45, 46, 47, 48, 49, 50, 51, 52, 159, 160, 161, 162, 163, 164, 165, 166, 167, 168, 169, 170, 171, 172, 173, 174, 175, 176, 177, 178] rfl (by decide +kernel)
set_option maxRecDepth 20000 in
theorem gX6_init_X5_init_n15 : GoodIn wsX6_init (wsX5_init) := ggX6_init_X5_init
set_option maxRecDepth 20000 in
theorem ggX6_init_X2_init : GoodIn wsX6_init wsX2_init := goodIn_r _ [55, 56, 2, 3, 32, 57, 58, 59, 60, 61, 62, 63, 64, 65, 66, 67, 68, 69, 70, 71, 72, 73, 74, 75, 76, 77, 78, 79, 80, 81, 82, 83, 84, 85, 86, 87, 88, 89, 90, 91, 92, 93, 94, 95, 96, 97, 98, 99, 100, 101, 102, 103, 104, 105, 106, 107, 108, 109, 110, 111, 179, 180, 181, 182, 183, 184, 185, 186, 187, 188, 189] rfl (by decide +kernel)
set_option maxRecDepth 20000 in
theorem gX6_init_X2_init : GoodIn wsX6_init (wsX2_init) := ggX6_init_X2_init
set_option maxRecDepth 20000 in
theorem ggX6_init_X0_init : GoodIn wsX6_init wsX0_init := goodIn_r _ [113, 114, 2, 3] rfl (by decide +kernel)
set_option maxRecDepth 20000 in
theorem gX6_init_X0_init_n34 : GoodIn wsX6_init (wsX0_init) := ggX6_init_X0_init
set_option maxRecDepth 20000 in
theorem ggX6_init_X1_init : GoodIn wsX6_init wsX1_init := goodIn_r _ [117, 118, 2, 3, 4, 119, 120, 121, 122, 16, 17, 112, 113, 114, 194, 195, 196, 197, 198, 199, 190, 191, 192, 193] rfl (by decide +kernel)
set_option maxRecDepth 20000 in
theorem gX6_init_X1_init : GoodIn wsX6_init (wsX1_init) := ggX6_init_X1_init
set_option maxRecDepth 20000 in
theorem ggX6_init_X3_init : GoodIn wsX6_init wsX3_init := goodIn_r _ [125, 126, 2, 3, 4, 127, 128, 129, 130, 131, 132, 16, 17, 133, 134, 112, 113, 114, 200, 201, 202, 203, 204, 205, 206, 190, 191, 192, 193] rfl (by decide +kernel)
set_option maxRecDepth 20000 in
theorem gX6_init_X3_init : GoodIn wsX6_init (wsX3_init) := ggX6_init_X3_init
set_option maxRecDepth 20000 in
theorem ggX6_init_J7_fill_53178 : GoodIn wsX6_init wsJ7_fill_53178 := goodIn_r _ [138] rfl (by decide +kernel)
set_option maxRecDepth 20000 in
theorem gX6_init_J7_fill_53178 : GoodIn wsX6_init (va_wsS RX6 81 yJ7_fill_53178 wsJ7_fill_53178) := goodIn_app (goodIn_of _ (by decide +kernel)) ggX6_init_J7_fill_53178
set_option maxRecDepth 20000 in
theorem ggX6_init_J7_fill_d0a16 : GoodIn wsX6_init wsJ7_fill_d0a16 := goodIn_r _ [141] rfl (by decide +kernel)
set_option maxRecDepth 20000 in
theorem gX6_init_J7_fill_d0a16 : GoodIn wsX6_init (va_wsS RX6 89 yJ7_fill_d0a16 wsJ7_fill_d0a16) := goodIn_app (goodIn_of _ (by decide +kernel)) ggX6_init_J7_fill_d0a16
theorem dX6_init_0 : decode cX6_init 0 = .ok (.aload_n 0, 1) := by decide +kernel
theorem dX6_init_1 : decode cX6_init 1 = .ok (.invokespecial 1, 3) := by decide +kernel
theorem dX6_init_4 : decode cX6_init 4 = .ok (.aload_n 0, 1) := by decide +kernel
theorem dX6_init_5 : decode cX6_init 5 = .ok (.sipush 1600, 3) := by decide +kernel
theorem dX6_init_8 : decode cX6_init 8 = .ok (.newarray .int, 2) := by decide +kernel
theorem dX6_init_10 : decode cX6_init 10 = .ok (.putfield 9, 3) := by decide +kernel
theorem dX6_init_13 : decode cX6_init 13 = .ok (.aload_n 0, 1) := by decide +kernel
theorem dX6_init_14 : decode cX6_init 14 = .ok (.new 13, 3) := by decide +kernel
theorem dX6_init_17 : decode cX6_init 17 = .ok (.dup, 1) := by decide +kernel
theorem dX6_init_18 : decode cX6_init 18 = .ok (.invokespecial 15, 3) := by decide +kernel
theorem dX6_init_21 : decode cX6_init 21 = .ok (.putfield 16, 3) := by decide +kernel
theorem dX6_init_24 : decode cX6_init 24 = .ok (.aload_n 0, 1) := by decide +kernel
theorem dX6_init_25 : decode cX6_init 25 = .ok (.new 13, 3) := by decide +kernel
theorem dX6_init_28 : decode cX6_init 28 = .ok (.dup, 1) := by decide +kernel
theorem dX6_init_29 : decode cX6_init 29 = .ok (.invokespecial 15, 3) := by decide +kernel
theorem dX6_init_32 : decode cX6_init 32 = .ok (.putfield 20, 3) := by decide +kernel
theorem dX6_init_35 : decode cX6_init 35 = .ok (.aload_n 0, 1) := by decide +kernel
theorem dX6_init_36 : decode cX6_init 36 = .ok (.new 23, 3) := by decide +kernel
theorem dX6_init_39 : decode cX6_init 39 = .ok (.dup, 1) := by decide +kernel
theorem dX6_init_40 : decode cX6_init 40 = .ok (.aload_n 0, 1) := by decide +kernel
theorem dX6_init_41 : decode cX6_init 41 = .ok (.getfield 9, 3) := by decide +kernel
theorem dX6_init_44 : decode cX6_init 44 = .ok (.aload_n 0, 1) := by decide +kernel
theorem dX6_init_45 : decode cX6_init 45 = .ok (.getfield 20, 3) := by decide +kernel
theorem dX6_init_48 : decode cX6_init 48 = .ok (.invokespecial 25, 3) := by decide +kernel
theorem dX6_init_51 : decode cX6_init 51 = .ok (.putfield 28, 3) := by decide +kernel
theorem dX6_init_54 : decode cX6_init 54 = .ok (.aload_n 0, 1) := by decide +kernel
theorem dX6_init_55 : decode cX6_init 55 = .ok (.new 32, 3) := by decide +kernel
theorem dX6_init_58 : decode cX6_init 58 = .ok (.dup, 1) := by decide +kernel
theorem dX6_init_59 : decode cX6_init 59 = .ok (.invokespecial 34, 3) := by decide +kernel
theorem dX6_init_62 : decode cX6_init 62 = .ok (.putfield 35, 3) := by decide +kernel
theorem dX6_init_65 : decode cX6_init 65 = .ok (.aload_n 0, 1) := by decide +kernel
theorem dX6_init_66 : decode cX6_init 66 = .ok (.new 32, 3) := by decide +kernel
theorem dX6_init_69 : decode cX6_init 69 = .ok (.dup, 1) := by decide +kernel
theorem dX6_init_70 : decode cX6_init 70 = .ok (.invokespecial 34, 3) := by decide +kernel
theorem dX6_init_73 : decode cX6_init 73 = .ok (.putfield 39, 3) := by decide +kernel
theorem dX6_init_76 : decode cX6_init 76 = .ok (.aload_n 0, 1) := by decide +kernel
theorem dX6_init_77 : decode cX6_init 77 = .ok (.new 42, 3) := by decide +kernel
theorem dX6_init_80 : decode cX6_init 80 = .ok (.dup, 1) := by decide +kernel
theorem dX6_init_81 : decode cX6_init 81 = .ok (.invokespecial 44, 3) := by decide +kernel
theorem dX6_init_84 : decode cX6_init 84 = .ok (.putfield 45, 3) := by decide +kernel
theorem dX6_init_87 : decode cX6_init 87 = .ok (.aload_n 0, 1) := by decide +kernel
theorem dX6_init_88 : decode cX6_init 88 = .ok (.new 49, 3) := by decide +kernel
theorem dX6_init_91 : decode cX6_init 91 = .ok (.dup, 1) := by decide +kernel
theorem dX6_init_92 : decode cX6_init 92 = .ok (.aload_n 0, 1) := by decide +kernel
theorem dX6_init_93 : decode cX6_init 93 = .ok (.getfield 16, 3) := by decide +kernel
theorem dX6_init_96 : decode cX6_init 96 = .ok (.invokespecial 51, 3) := by decide +kernel
theorem dX6_init_99 : decode cX6_init 99 = .ok (.putfield 54, 3) := by decide +kernel
theorem dX6_init_102 : decode cX6_init 102 = .ok (.aload_n 0, 1) := by decide +kernel
theorem dX6_init_103 : decode cX6_init 103 = .ok (.iconst 1, 1) := by decide +kernel
theorem dX6_init_104 : decode cX6_init 104 = .ok (.putfield 58, 3) := by decide +kernel
theorem dX6_init_107 : decode cX6_init 107 = .ok (.aload_n 0, 1) := by decide +kernel
theorem dX6_init_108 : decode cX6_init 108 = .ok (.iconst 1, 1) := by decide +kernel
theorem dX6_init_109 : decode cX6_init 109 = .ok (.putfield 62, 3) := by decide +kernel
theorem dX6_init_112 : decode cX6_init 112 = .ok (.aload_n 0, 1) := by decide +kernel
theorem dX6_init_113 : decode cX6_init 113 = .ok (.sipush 999, 3) := by decide +kernel
theorem dX6_init_116 : decode cX6_init 116 = .ok (.putfield 65, 3) := by decide +kernel
theorem dX6_init_119 : decode cX6_init 119 = .ok (.aload_n 0, 1) := by decide +kernel
theorem dX6_init_120 : decode cX6_init 120 = .ok (.iconst 5, 1) := by decide +kernel
theorem dX6_init_121 : decode cX6_init 121 = .ok (.newarray .int, 2) := by decide +kernel
theorem dX6_init_123 : decode cX6_init 123 = .ok (.putfield 68, 3) := by decide +kernel
theorem dX6_init_126 : decode cX6_init 126 = .ok (.aload_n 0, 1) := by decide +kernel
theorem dX6_init_127 : decode cX6_init 127 = .ok (.bipush 13, 2) := by decide +kernel
theorem dX6_init_129 : decode cX6_init 129 = .ok (.newarray .long, 2) := by decide +kernel
theorem dX6_init_131 : decode cX6_init 131 = .ok (.putfield 71, 3) := by decide +kernel
theorem dX6_init_134 : decode cX6_init 134 = .ok (.aload_n 0, 1) := by decide +kernel
theorem dX6_init_135 : decode cX6_init 135 = .ok (.bipush 9, 2) := by decide +kernel
theorem dX6_init_137 : decode cX6_init 137 = .ok (.newarray .int, 2) := by decide +kernel
theorem dX6_init_139 : decode cX6_init 139 = .ok (.putfield 75, 3) := by decide +kernel
theorem dX6_init_142 : decode cX6_init 142 = .ok (.aload_n 0, 1) := by decide +kernel
theorem dX6_init_143 : decode cX6_init 143 = .ok (.bipush 6, 2) := by decide +kernel
theorem dX6_init_145 : decode cX6_init 145 = .ok (.newarray .int, 2) := by decide +kernel
theorem dX6_init_147 : decode cX6_init 147 = .ok (.putfield 78, 3) := by decide +kernel
theorem dX6_init_150 : decode cX6_init 150 = .ok (.aload_n 0, 1) := by decide +kernel
theorem dX6_init_151 : decode cX6_init 151 = .ok (.getfield 68, 3) := by decide +kernel
theorem dX6_init_154 : decode cX6_init 154 = .ok (.iconst (-1), 1) := by decide +kernel
theorem dX6_init_155 : decode cX6_init 155 = .ok (.invokestatic 81, 3) := by decide +kernel
theorem dX6_init_158 : decode cX6_init 158 = .ok (.aload_n 0, 1) := by decide +kernel
theorem dX6_init_159 : decode cX6_init 159 = .ok (.getfield 71, 3) := by decide +kernel
theorem dX6_init_162 : decode cX6_init 162 = .ok (.ldc2_w 87, 3) := by decide +kernel
theorem dX6_init_165 : decode cX6_init 165 = .ok (.invokestatic 89, 3) := by decide +kernel
theorem dX6_init_168 : decode cX6_init 168 = .ok (.aload_n 0, 1) := by decide +kernel
theorem dX6_init_169 : decode cX6_init 169 = .ok (.getfield 75, 3) := by decide +kernel
theorem dX6_init_172 : decode cX6_init 172 = .ok (.iconst (-1), 1) := by decide +kernel
theorem dX6_init_173 : decode cX6_init 173 = .ok (.invokestatic 81, 3) := by decide +kernel
theorem dX6_init_176 : decode cX6_init 176 = .ok (.return_, 1) := by decide +kernel
set_option maxRecDepth 20000 in
theorem ggX6_feed_X6_refuse : GoodIn wsX6_feed wsX6_refuse := goodIn_r _ [7, 8, 13, 14, 15, 16, 17, 18, 19, 20, 21, 22, 23, 24, 25, 26, 27, 28, 29] rfl (by decide +kernel)
set_option maxRecDepth 20000 in
theorem gX6_feed_X6_refuse : GoodIn wsX6_feed (wsV RX6 95 RX6 yX6_refuse wsX6_refuse) := goodIn_app (goodIn_of _ (by decide +kernel)) ggX6_feed_X6_refuse
set_option maxRecDepth 20000 in
theorem ggX6_feed_X6_feedNumber : GoodIn wsX6_feed wsX6_feedNumber := goodIn_r _ [12, 1, 2, 13, 14, 15, 16, 17, 18, 19, 20, 21, 22, 23, 24, 25, 26, 27, 28, 29] rfl (by decide +kernel)
set_option maxRecDepth 20000 in
theorem gX6_feed_X6_feedNumber : GoodIn wsX6_feed (wsV RX6 99 RX6 yX6_feedNumber wsX6_feedNumber) := goodIn_app (goodIn_of _ (by decide +kernel)) ggX6_feed_X6_feedNumber
theorem dX6_feed_0 : decode cX6_feed 0 = .ok (.aload_n 0, 1) := by decide +kernel
theorem dX6_feed_1 : decode cX6_feed 1 = .ok (.getfield 92, 3) := by decide +kernel
theorem dX6_feed_4 : decode cX6_feed 4 = .ok (.bipush 20, 2) := by decide +kernel
theorem dX6_feed_6 : decode cX6_feed 6 = .ok (.iadd, 1) := by decide +kernel
theorem dX6_feed_7 : decode cX6_feed 7 = .ok (.aload_n 0, 1) := by decide +kernel
theorem dX6_feed_8 : decode cX6_feed 8 = .ok (.getfield 9, 3) := by decide +kernel
theorem dX6_feed_11 : decode cX6_feed 11 = .ok (.arraylength, 1) := by decide +kernel
theorem dX6_feed_12 : decode cX6_feed 12 = .ok (.if_icmp .le 9, 3) := by decide +kernel
theorem dX6_feed_15 : decode cX6_feed 15 = .ok (.aload_n 0, 1) := by decide +kernel
theorem dX6_feed_16 : decode cX6_feed 16 = .ok (.iconst 0, 1) := by decide +kernel
theorem dX6_feed_17 : decode cX6_feed 17 = .ok (.invokevirtual 95, 3) := by decide +kernel
theorem dX6_feed_20 : decode cX6_feed 20 = .ok (.ireturn, 1) := by decide +kernel
theorem dX6_feed_21 : decode cX6_feed 21 = .ok (.aload_n 0, 1) := by decide +kernel
theorem dX6_feed_22 : decode cX6_feed 22 = .ok (.iload_n 1, 1) := by decide +kernel
theorem dX6_feed_23 : decode cX6_feed 23 = .ok (.invokevirtual 99, 3) := by decide +kernel
theorem dX6_feed_26 : decode cX6_feed 26 = .ok (.aload_n 0, 1) := by decide +kernel
theorem dX6_feed_27 : decode cX6_feed 27 = .ok (.iload_n 2, 1) := by decide +kernel
theorem dX6_feed_28 : decode cX6_feed 28 = .ok (.invokevirtual 99, 3) := by decide +kernel
theorem dX6_feed_31 : decode cX6_feed 31 = .ok (.aload_n 0, 1) := by decide +kernel
theorem dX6_feed_32 : decode cX6_feed 32 = .ok (.iload_n 3, 1) := by decide +kernel
theorem dX6_feed_33 : decode cX6_feed 33 = .ok (.invokevirtual 99, 3) := by decide +kernel
theorem dX6_feed_36 : decode cX6_feed 36 = .ok (.aload_n 0, 1) := by decide +kernel
theorem dX6_feed_37 : decode cX6_feed 37 = .ok (.iload 4, 2) := by decide +kernel
theorem dX6_feed_39 : decode cX6_feed 39 = .ok (.invokevirtual 99, 3) := by decide +kernel
theorem dX6_feed_42 : decode cX6_feed 42 = .ok (.aload_n 0, 1) := by decide +kernel
theorem dX6_feed_43 : decode cX6_feed 43 = .ok (.iload 5, 2) := by decide +kernel
theorem dX6_feed_45 : decode cX6_feed 45 = .ok (.invokevirtual 99, 3) := by decide +kernel
theorem dX6_feed_48 : decode cX6_feed 48 = .ok (.aload_n 0, 1) := by decide +kernel
theorem dX6_feed_49 : decode cX6_feed 49 = .ok (.getfield 92, 3) := by decide +kernel
theorem dX6_feed_52 : decode cX6_feed 52 = .ok (.ireturn, 1) := by decide +kernel
set_option maxRecDepth 20000 in
theorem ggX6_end_X6_refuse : GoodIn wsX6_end wsX6_refuse := goodIn_r _ [6, 7, 8, 9, 10, 11, 12, 13, 14, 15, 16, 17, 18, 19, 20, 21, 22, 23, 24] rfl (by decide +kernel)
set_option maxRecDepth 20000 in
theorem gX6_end_X6_refuse : GoodIn wsX6_end (wsV RX6 95 RX6 yX6_refuse wsX6_refuse) := goodIn_app (goodIn_of _ (by decide +kernel)) ggX6_end_X6_refuse
theorem dX6_end_0 : decode cX6_end 0 = .ok (.iload_n 1, 1) := by decide +kernel
theorem dX6_end_1 : decode cX6_end 1 = .ok (.ifCond .lt 11, 3) := by decide +kernel
theorem dX6_end_4 : decode cX6_end 4 = .ok (.iload_n 1, 1) := by decide +kernel
theorem dX6_end_5 : decode cX6_end 5 = .ok (.aload_n 0, 1) := by decide +kernel
theorem dX6_end_6 : decode cX6_end 6 = .ok (.getfield 92, 3) := by decide +kernel
theorem dX6_end_9 : decode cX6_end 9 = .ok (.if_icmp .le 11, 3) := by decide +kernel
theorem dX6_end_12 : decode cX6_end 12 = .ok (.aload_n 0, 1) := by decide +kernel
theorem dX6_end_13 : decode cX6_end 13 = .ok (.iconst 0, 1) := by decide +kernel
theorem dX6_end_14 : decode cX6_end 14 = .ok (.invokevirtual 95, 3) := by decide +kernel
theorem dX6_end_17 : decode cX6_end 17 = .ok (.pop, 1) := by decide +kernel
theorem dX6_end_18 : decode cX6_end 18 = .ok (.iconst 0, 1) := by decide +kernel
theorem dX6_end_19 : decode cX6_end 19 = .ok (.ireturn, 1) := by decide +kernel
theorem dX6_end_20 : decode cX6_end 20 = .ok (.aload_n 0, 1) := by decide +kernel
theorem dX6_end_21 : decode cX6_end 21 = .ok (.iload_n 1, 1) := by decide +kernel
theorem dX6_end_22 : decode cX6_end 22 = .ok (.putfield 92, 3) := by decide +kernel
theorem dX6_end_25 : decode cX6_end 25 = .ok (.iconst 1, 1) := by decide +kernel
theorem dX6_end_26 : decode cX6_end 26 = .ok (.ireturn, 1) := by decide +kernel
set_option maxRecDepth 20000 in
theorem ggX6_shore_X6_takeTape : GoodIn wsX6_shore wsX6_takeTape := goodIn_r _ [11, 12, 253, 254, 255, 256, 257, 258, 259, 260, 261, 262, 263, 264, 265, 266, 267, 268, 269] rfl (by decide +kernel)
set_option maxRecDepth 20000 in
theorem gX6_shore_X6_takeTape : GoodIn wsX6_shore (wsV RX6 103 RX6 yX6_takeTape wsX6_takeTape) := goodIn_app (goodIn_of _ (by decide +kernel)) ggX6_shore_X6_takeTape
set_option maxRecDepth 20000 in
theorem ggX6_shore_X2_begin : GoodIn wsX6_shore wsX2_begin := goodIn_r _ [17, 18, 19, 20, 21, 22, 23, 24, 25, 26, 27, 28, 29, 30, 31, 32, 33, 34, 35, 36, 37, 38, 39, 40, 41, 42, 43, 44, 45, 46, 47, 48, 49, 50, 51, 16, 52, 53, 54, 55, 56, 57, 58, 59, 60, 61, 62, 63, 64, 65, 66, 67, 68, 69, 70, 71, 72, 73, 74, 75, 76, 77, 78, 79, 80, 81, 270, 271, 272, 273, 274, 275, 276, 277, 278, 279, 280, 281, 282, 283, 284, 285, 286, 287, 288, 289, 290, 291, 292, 293, 294, 295, 296, 297, 298, 299, 300] rfl (by decide +kernel)
set_option maxRecDepth 20000 in
theorem gX6_shore_X2_begin : GoodIn wsX6_shore (wsV RX6 107 RX2 yX2_begin wsX2_begin) := goodIn_app (goodIn_of _ (by decide +kernel)) ggX6_shore_X2_begin
set_option maxRecDepth 20000 in
theorem ggX6_shore_X2_goesOn : GoodIn wsX6_shore wsX2_goesOn := goodIn_r _ [85, 28, 26, 270, 271, 272, 273, 274, 275, 276, 277, 278, 279, 280] rfl (by decide +kernel)
set_option maxRecDepth 20000 in
theorem gX6_shore_X2_goesOn : GoodIn wsX6_shore (wsV RX6 111 RX2 yX2_goesOn wsX2_goesOn) := goodIn_app (goodIn_of _ (by decide +kernel)) ggX6_shore_X2_goesOn
set_option maxRecDepth 20000 in
theorem ggX6_shore_X2_statement : GoodIn wsX6_shore wsX2_statement := goodIn_r _ [89, 26, 53, 18, 90, 91, 92, 93, 94, 95, 16, 96, 71, 72, 73, 74, 28, 29, 97, 98, 99, 100, 101, 102, 103, 104, 105, 106, 107, 108, 33, 109, 36, 35, 49, 50, 51, 52, 25, 24, 19, 54, 55, 56, 57, 58, 59, 60, 61, 62, 63, 64, 65, 66, 67, 68, 69, 70, 75, 76, 77, 78, 79, 80, 81, 110, 111, 112, 113, 114, 115, 116, 117, 118, 119, 120, 121, 122, 123, 124, 125, 126, 127, 128, 129, 130, 131, 132, 133, 134, 135, 136, 137, 138, 139, 140, 141, 142, 143, 144, 145, 146, 147, 148, 149, 150, 151, 152, 153, 154, 155, 156, 37, 157, 158, 159, 160, 161, 162, 163, 164, 165, 166, 167, 168, 169, 170, 171, 172, 173, 27, 174, 175, 176, 177, 178, 179, 180, 181, 182, 183, 184, 185, 186, 187, 188, 189, 190, 191, 192, 193, 194, 195, 196, 197, 198, 199, 200, 270, 271, 272, 273, 274, 275, 276, 277, 278, 279, 280, 281, 282, 283, 284, 285, 286, 287, 288, 289, 290, 291, 292, 293, 294, 295, 296, 297, 298, 299, 300] rfl (by decide +kernel)
set_option maxRecDepth 20000 in
theorem gX6_shore_X2_statement : GoodIn wsX6_shore (wsV RX6 115 RX2 yX2_statement wsX2_statement) := goodIn_app (goodIn_of _ (by decide +kernel)) ggX6_shore_X2_statement
set_option maxRecDepth 20000 in
theorem ggX6_shore_X6_refuse : GoodIn wsX6_shore wsX6_refuse := goodIn_r _ [204, 205, 253, 254, 255, 256, 257, 258, 259, 260, 261, 262, 263, 264, 265, 266, 267, 268, 269] rfl (by decide +kernel)
set_option maxRecDepth 20000 in
theorem gX6_shore_X6_refuse : GoodIn wsX6_shore (wsV RX6 95 RX6 yX6_refuse wsX6_refuse) := goodIn_app (goodIn_of _ (by decide +kernel)) ggX6_shore_X6_refuse
set_option maxRecDepth 20000 in
theorem ggX6_shore_X6_beginAnew : GoodIn wsX6_shore wsX6_beginAnew := goodIn_r _ [209, 210, 5, 211, 212, 213, 214, 215, 216, 217, 218, 219, 220, 221, 222, 223, 224, 225, 226, 227, 228, 229, 230, 231, 232, 233, 234, 235, 236, 237, 238, 239, 240, 241, 242, 243, 244, 245, 246, 247, 248, 249, 46, 47, 48, 250, 251, 252, 253, 254, 255, 256, 257, 258, 259, 260, 261, 262, 263, 264, 265, 266, 267, 268, 269, 281, 282, 283, 284, 285, 286, 287, 288, 289, 290, 291, 292, 293, 294, 295, 296, 297, 298, 299, 300, 301, 302, 303, 304, 305, 306, 307, 308, 309, 310, 311, 312, 313, 314, 315, 316, 317, 318, 319, 320, 321, 322, 323] rfl (by decide +kernel)
set_option maxRecDepth 20000 in
theorem gX6_shore_X6_beginAnew : GoodIn wsX6_shore (wsV RX6 121 RX6 yX6_beginAnew wsX6_beginAnew) := goodIn_app (goodIn_of _ (by decide +kernel)) ggX6_shore_X6_beginAnew
theorem dX6_shore_0 : decode cX6_shore 0 = .ok (.aload_n 0, 1) := by decide +kernel
theorem dX6_shore_1 : decode cX6_shore 1 = .ok (.getfield 28, 3) := by decide +kernel
theorem dX6_shore_4 : decode cX6_shore 4 = .ok (.aload_n 0, 1) := by decide +kernel
theorem dX6_shore_5 : decode cX6_shore 5 = .ok (.invokevirtual 103, 3) := by decide +kernel
theorem dX6_shore_8 : decode cX6_shore 8 = .ok (.aload_n 0, 1) := by decide +kernel
theorem dX6_shore_9 : decode cX6_shore 9 = .ok (.getfield 20, 3) := by decide +kernel
theorem dX6_shore_12 : decode cX6_shore 12 = .ok (.invokevirtual 107, 3) := by decide +kernel
theorem dX6_shore_15 : decode cX6_shore 15 = .ok (.iconst 0, 1) := by decide +kernel
theorem dX6_shore_16 : decode cX6_shore 16 = .ok (.istore_n 1, 1) := by decide +kernel
theorem dX6_shore_17 : decode cX6_shore 17 = .ok (.iload_n 1, 1) := by decide +kernel
theorem dX6_shore_18 : decode cX6_shore 18 = .ok (.aload_n 0, 1) := by decide +kernel
theorem dX6_shore_19 : decode cX6_shore 19 = .ok (.getfield 9, 3) := by decide +kernel
theorem dX6_shore_22 : decode cX6_shore 22 = .ok (.arraylength, 1) := by decide +kernel
theorem dX6_shore_23 : decode cX6_shore 23 = .ok (.if_icmp .gt 26, 3) := by decide +kernel
theorem dX6_shore_26 : decode cX6_shore 26 = .ok (.aload_n 0, 1) := by decide +kernel
theorem dX6_shore_27 : decode cX6_shore 27 = .ok (.getfield 28, 3) := by decide +kernel
theorem dX6_shore_30 : decode cX6_shore 30 = .ok (.invokevirtual 111, 3) := by decide +kernel
theorem dX6_shore_33 : decode cX6_shore 33 = .ok (.ifCond .eq 16, 3) := by decide +kernel
theorem dX6_shore_36 : decode cX6_shore 36 = .ok (.aload_n 0, 1) := by decide +kernel
theorem dX6_shore_37 : decode cX6_shore 37 = .ok (.getfield 28, 3) := by decide +kernel
theorem dX6_shore_40 : decode cX6_shore 40 = .ok (.invokevirtual 115, 3) := by decide +kernel
theorem dX6_shore_43 : decode cX6_shore 43 = .ok (.iinc 1 1, 3) := by decide +kernel
theorem dX6_shore_46 : decode cX6_shore 46 = .ok (.goto (-29), 3) := by decide +kernel
theorem dX6_shore_49 : decode cX6_shore 49 = .ok (.aload_n 0, 1) := by decide +kernel
theorem dX6_shore_50 : decode cX6_shore 50 = .ok (.getfield 28, 3) := by decide +kernel
theorem dX6_shore_53 : decode cX6_shore 53 = .ok (.getfield 118, 3) := by decide +kernel
theorem dX6_shore_56 : decode cX6_shore 56 = .ok (.ifCond .eq 9, 3) := by decide +kernel
theorem dX6_shore_59 : decode cX6_shore 59 = .ok (.aload_n 0, 1) := by decide +kernel
theorem dX6_shore_60 : decode cX6_shore 60 = .ok (.iconst 1, 1) := by decide +kernel
theorem dX6_shore_61 : decode cX6_shore 61 = .ok (.invokevirtual 95, 3) := by decide +kernel
theorem dX6_shore_64 : decode cX6_shore 64 = .ok (.ireturn, 1) := by decide +kernel
theorem dX6_shore_65 : decode cX6_shore 65 = .ok (.aload_n 0, 1) := by decide +kernel
theorem dX6_shore_66 : decode cX6_shore 66 = .ok (.getfield 16, 3) := by decide +kernel
theorem dX6_shore_69 : decode cX6_shore 69 = .ok (.astore_n 1, 1) := by decide +kernel
theorem dX6_shore_70 : decode cX6_shore 70 = .ok (.aload_n 0, 1) := by decide +kernel
theorem dX6_shore_71 : decode cX6_shore 71 = .ok (.aload_n 0, 1) := by decide +kernel
theorem dX6_shore_72 : decode cX6_shore 72 = .ok (.getfield 20, 3) := by decide +kernel
theorem dX6_shore_75 : decode cX6_shore 75 = .ok (.putfield 16, 3) := by decide +kernel
theorem dX6_shore_78 : decode cX6_shore 78 = .ok (.aload_n 0, 1) := by decide +kernel
theorem dX6_shore_79 : decode cX6_shore 79 = .ok (.aload_n 1, 1) := by decide +kernel
theorem dX6_shore_80 : decode cX6_shore 80 = .ok (.putfield 20, 3) := by decide +kernel
theorem dX6_shore_83 : decode cX6_shore 83 = .ok (.aload_n 0, 1) := by decide +kernel
theorem dX6_shore_84 : decode cX6_shore 84 = .ok (.invokevirtual 121, 3) := by decide +kernel
theorem dX6_shore_87 : decode cX6_shore 87 = .ok (.aload_n 0, 1) := by decide +kernel
theorem dX6_shore_88 : decode cX6_shore 88 = .ok (.getfield 16, 3) := by decide +kernel
theorem dX6_shore_91 : decode cX6_shore 91 = .ok (.getfield 124, 3) := by decide +kernel
theorem dX6_shore_94 : decode cX6_shore 94 = .ok (.ireturn, 1) := by decide +kernel
theorem dX6_fault_0 : decode cX6_fault 0 = .ok (.iload_n 1, 1) := by decide +kernel
theorem dX6_fault_1 : decode cX6_fault 1 = .ok (.lookupswitch 43 #[(0, 27), (1, 35)], 27) := by decide +kernel
theorem dX6_fault_28 : decode cX6_fault 28 = .ok (.aload_n 0, 1) := by decide +kernel
theorem dX6_fault_29 : decode cX6_fault 29 = .ok (.getfield 28, 3) := by decide +kernel
theorem dX6_fault_32 : decode cX6_fault 32 = .ok (.getfield 118, 3) := by decide +kernel
theorem dX6_fault_35 : decode cX6_fault 35 = .ok (.ireturn, 1) := by decide +kernel
theorem dX6_fault_36 : decode cX6_fault 36 = .ok (.aload_n 0, 1) := by decide +kernel
theorem dX6_fault_37 : decode cX6_fault 37 = .ok (.getfield 28, 3) := by decide +kernel
theorem dX6_fault_40 : decode cX6_fault 40 = .ok (.getfield 127, 3) := by decide +kernel
theorem dX6_fault_43 : decode cX6_fault 43 = .ok (.ireturn, 1) := by decide +kernel
theorem dX6_fault_44 : decode cX6_fault 44 = .ok (.iconst (-1), 1) := by decide +kernel
theorem dX6_fault_45 : decode cX6_fault 45 = .ok (.ireturn, 1) := by decide +kernel
set_option maxRecDepth 20000 in
theorem ggX6_has_X5_worthOf : GoodIn wsX6_has wsX5_worthOf := goodIn_r _ [18, 19, 20, 120, 121, 122, 123, 124, 125, 126, 127, 128, 129, 130, 131, 132, 133, 134, 135, 136, 137, 138, 139] rfl (by decide +kernel)
set_option maxRecDepth 20000 in
theorem gX6_has_X5_worthOf : GoodIn wsX6_has (wsV RX6 137 RX5 yX5_worthOf wsX5_worthOf) := goodIn_app (goodIn_of _ (by decide +kernel)) ggX6_has_X5_worthOf
set_option maxRecDepth 20000 in
theorem ggX6_has_X5_roomOf : GoodIn wsX6_has wsX5_roomOf := goodIn_r _ [24, 25, 26, 27, 28, 29, 30, 31, 32, 33, 34, 17, 35, 36, 37, 38, 39, 40, 41, 42, 43, 44, 45, 46, 47, 48, 49, 50, 51, 52, 53, 54, 19, 55, 15, 16, 18, 20, 56, 57, 58, 59, 60, 61, 62, 63, 64, 65, 66, 67, 68, 69, 70, 71, 72, 73, 74, 75, 76, 77, 78, 79, 80, 81, 82, 83, 84, 85, 86, 87, 88, 89, 90, 91, 120, 121, 122, 123, 124, 125, 126, 127, 128, 129, 130, 131, 132, 133, 134, 135, 136, 137, 138, 139, 140, 141, 142, 143] rfl (by decide +kernel)
set_option maxRecDepth 20000 in
theorem gX6_has_X5_roomOf : GoodIn wsX6_has (wsV RX6 149 RX5 yX5_roomOf wsX5_roomOf) := goodIn_app (goodIn_of _ (by decide +kernel)) ggX6_has_X5_roomOf
set_option maxRecDepth 20000 in
theorem ggX6_has_X5_isContent : GoodIn wsX6_has wsX5_isContent := goodIn_r _ [95, 32, 33, 34, 17, 35, 36, 37, 38, 39, 40, 41, 42, 25, 26, 27, 28, 43, 44, 45, 46, 47, 48, 49, 50, 51, 52, 53, 54, 19, 55, 15, 16, 18, 20, 56, 57, 58, 59, 60, 61, 62, 63, 64, 65, 66, 67, 68, 69, 70, 71, 72, 73, 74, 75, 76, 77, 29, 30, 31, 78, 79, 80, 81, 82, 83, 84, 85, 86, 87, 88, 89, 90, 91, 120, 121, 122, 123, 124, 125, 126, 127, 128, 129, 130, 131, 132, 133, 134, 135, 136, 137, 138, 139, 140, 141, 142, 143] rfl (by decide +kernel)
set_option maxRecDepth 20000 in
theorem gX6_has_X5_isContent : GoodIn wsX6_has (wsV RX6 153 RX5 yX5_isContent wsX5_isContent) := goodIn_app (goodIn_of _ (by decide +kernel)) ggX6_has_X5_isContent
set_option maxRecDepth 20000 in
theorem ggX6_has_X1_told : GoodIn wsX6_has wsX1_told := goodIn_r _ [100, 101, 102, 26, 27, 28, 144, 145, 146, 147, 148, 149] rfl (by decide +kernel)
set_option maxRecDepth 20000 in
theorem gX6_has_X1_told : GoodIn wsX6_has (wsV RX6 163 RX1 yX1_told wsX1_told) := goodIn_app (goodIn_of _ (by decide +kernel)) ggX6_has_X1_told
theorem dX6_has_0 : decode cX6_has 0 = .ok (.iload_n 1, 1) := by decide +kernel
theorem dX6_has_1 : decode cX6_has 1 = .ok (.tableswitch 203 0 13 #[71, 79, 87, 95, 110, 118, 126, 134, 146, 166, 174, 182, 190, 198], 71) := by decide +kernel
theorem dX6_has_72 : decode cX6_has 72 = .ok (.aload_n 0, 1) := by decide +kernel
theorem dX6_has_73 : decode cX6_has 73 = .ok (.getfield 16, 3) := by decide +kernel
theorem dX6_has_76 : decode cX6_has 76 = .ok (.getfield 130, 3) := by decide +kernel
theorem dX6_has_79 : decode cX6_has 79 = .ok (.ireturn, 1) := by decide +kernel
theorem dX6_has_80 : decode cX6_has 80 = .ok (.aload_n 0, 1) := by decide +kernel
theorem dX6_has_81 : decode cX6_has 81 = .ok (.getfield 16, 3) := by decide +kernel
theorem dX6_has_84 : decode cX6_has 84 = .ok (.getfield 133, 3) := by decide +kernel
theorem dX6_has_87 : decode cX6_has 87 = .ok (.ireturn, 1) := by decide +kernel
theorem dX6_has_88 : decode cX6_has 88 = .ok (.aload_n 0, 1) := by decide +kernel
theorem dX6_has_89 : decode cX6_has 89 = .ok (.getfield 35, 3) := by decide +kernel
theorem dX6_has_92 : decode cX6_has 92 = .ok (.getfield 136, 3) := by decide +kernel
theorem dX6_has_95 : decode cX6_has 95 = .ok (.ireturn, 1) := by decide +kernel
theorem dX6_has_96 : decode cX6_has 96 = .ok (.aload_n 0, 1) := by decide +kernel
theorem dX6_has_97 : decode cX6_has 97 = .ok (.getfield 16, 3) := by decide +kernel
theorem dX6_has_100 : decode cX6_has 100 = .ok (.aload_n 0, 1) := by decide +kernel
theorem dX6_has_101 : decode cX6_has 101 = .ok (.getfield 35, 3) := by decide +kernel
theorem dX6_has_104 : decode cX6_has 104 = .ok (.getfield 136, 3) := by decide +kernel
theorem dX6_has_107 : decode cX6_has 107 = .ok (.invokevirtual 137, 3) := by decide +kernel
theorem dX6_has_110 : decode cX6_has 110 = .ok (.ireturn, 1) := by decide +kernel
theorem dX6_has_111 : decode cX6_has 111 = .ok (.aload_n 0, 1) := by decide +kernel
theorem dX6_has_112 : decode cX6_has 112 = .ok (.getfield 35, 3) := by decide +kernel
theorem dX6_has_115 : decode cX6_has 115 = .ok (.getfield 140, 3) := by decide +kernel
theorem dX6_has_118 : decode cX6_has 118 = .ok (.ireturn, 1) := by decide +kernel
theorem dX6_has_119 : decode cX6_has 119 = .ok (.aload_n 0, 1) := by decide +kernel
theorem dX6_has_120 : decode cX6_has 120 = .ok (.getfield 35, 3) := by decide +kernel
theorem dX6_has_123 : decode cX6_has 123 = .ok (.getfield 143, 3) := by decide +kernel
theorem dX6_has_126 : decode cX6_has 126 = .ok (.ireturn, 1) := by decide +kernel
theorem dX6_has_127 : decode cX6_has 127 = .ok (.aload_n 0, 1) := by decide +kernel
theorem dX6_has_128 : decode cX6_has 128 = .ok (.getfield 35, 3) := by decide +kernel
theorem dX6_has_131 : decode cX6_has 131 = .ok (.getfield 146, 3) := by decide +kernel
theorem dX6_has_134 : decode cX6_has 134 = .ok (.ireturn, 1) := by decide +kernel
theorem dX6_has_135 : decode cX6_has 135 = .ok (.aload_n 0, 1) := by decide +kernel
theorem dX6_has_136 : decode cX6_has 136 = .ok (.getfield 16, 3) := by decide +kernel
theorem dX6_has_139 : decode cX6_has 139 = .ok (.aload_n 0, 1) := by decide +kernel
theorem dX6_has_140 : decode cX6_has 140 = .ok (.getfield 35, 3) := by decide +kernel
theorem dX6_has_143 : decode cX6_has 143 = .ok (.invokevirtual 149, 3) := by decide +kernel
theorem dX6_has_146 : decode cX6_has 146 = .ok (.ireturn, 1) := by decide +kernel
theorem dX6_has_147 : decode cX6_has 147 = .ok (.aload_n 0, 1) := by decide +kernel
theorem dX6_has_148 : decode cX6_has 148 = .ok (.getfield 16, 3) := by decide +kernel
theorem dX6_has_151 : decode cX6_has 151 = .ok (.aload_n 0, 1) := by decide +kernel
theorem dX6_has_152 : decode cX6_has 152 = .ok (.getfield 35, 3) := by decide +kernel
theorem dX6_has_155 : decode cX6_has 155 = .ok (.invokevirtual 153, 3) := by decide +kernel
theorem dX6_has_158 : decode cX6_has 158 = .ok (.ifCond .eq 7, 3) := by decide +kernel
theorem dX6_has_161 : decode cX6_has 161 = .ok (.iconst 1, 1) := by decide +kernel
theorem dX6_has_162 : decode cX6_has 162 = .ok (.goto 4, 3) := by decide +kernel
theorem dX6_has_165 : decode cX6_has 165 = .ok (.iconst 0, 1) := by decide +kernel
theorem dX6_has_166 : decode cX6_has 166 = .ok (.ireturn, 1) := by decide +kernel
theorem dX6_has_167 : decode cX6_has 167 = .ok (.aload_n 0, 1) := by decide +kernel
theorem dX6_has_168 : decode cX6_has 168 = .ok (.getfield 16, 3) := by decide +kernel
theorem dX6_has_171 : decode cX6_has 171 = .ok (.getfield 157, 3) := by decide +kernel
theorem dX6_has_174 : decode cX6_has 174 = .ok (.ireturn, 1) := by decide +kernel
theorem dX6_has_175 : decode cX6_has 175 = .ok (.aload_n 0, 1) := by decide +kernel
theorem dX6_has_176 : decode cX6_has 176 = .ok (.getfield 16, 3) := by decide +kernel
theorem dX6_has_179 : decode cX6_has 179 = .ok (.getfield 160, 3) := by decide +kernel
theorem dX6_has_182 : decode cX6_has 182 = .ok (.ireturn, 1) := by decide +kernel
theorem dX6_has_183 : decode cX6_has 183 = .ok (.aload_n 0, 1) := by decide +kernel
theorem dX6_has_184 : decode cX6_has 184 = .ok (.getfield 45, 3) := by decide +kernel
theorem dX6_has_187 : decode cX6_has 187 = .ok (.invokevirtual 163, 3) := by decide +kernel
theorem dX6_has_190 : decode cX6_has 190 = .ok (.ireturn, 1) := by decide +kernel
theorem dX6_has_191 : decode cX6_has 191 = .ok (.aload_n 0, 1) := by decide +kernel
theorem dX6_has_192 : decode cX6_has 192 = .ok (.getfield 45, 3) := by decide +kernel
theorem dX6_has_195 : decode cX6_has 195 = .ok (.getfield 166, 3) := by decide +kernel
theorem dX6_has_198 : decode cX6_has 198 = .ok (.ireturn, 1) := by decide +kernel
theorem dX6_has_199 : decode cX6_has 199 = .ok (.aload_n 0, 1) := by decide +kernel
theorem dX6_has_200 : decode cX6_has 200 = .ok (.getfield 58, 3) := by decide +kernel
theorem dX6_has_203 : decode cX6_has 203 = .ok (.ireturn, 1) := by decide +kernel
theorem dX6_has_204 : decode cX6_has 204 = .ok (.iconst (-1), 1) := by decide +kernel
theorem dX6_has_205 : decode cX6_has 205 = .ok (.ireturn, 1) := by decide +kernel
set_option maxRecDepth 20000 in
theorem ggX6_letter_X6_isThing : GoodIn wsX6_letter wsX6_isThing := goodIn_r _ [8, 1, 9, 18, 19, 20, 21, 22, 23, 24, 25, 26, 27, 28, 29, 30, 31, 32, 33, 34, 35, 36, 37, 38, 39, 40, 41, 42, 43, 44, 45, 46, 47, 48, 49, 50, 51, 52, 53, 54] rfl (by decide +kernel)
set_option maxRecDepth 20000 in
theorem gX6_letter_X6_isThing : GoodIn wsX6_letter (wsV RX6 169 RX6 yX6_isThing wsX6_isThing) := goodIn_app (goodIn_of _ (by decide +kernel)) ggX6_letter_X6_isThing
set_option maxRecDepth 20000 in
theorem ggX6_letter_X6_letterOf : GoodIn wsX6_letter wsX6_letterOf := goodIn_r _ [12] rfl (by decide +kernel)
set_option maxRecDepth 20000 in
theorem gX6_letter_X6_letterOf : GoodIn wsX6_letter (va_wsS RX6 176 yX6_letterOf wsX6_letterOf) := goodIn_app (goodIn_of _ (by decide +kernel)) ggX6_letter_X6_letterOf
set_option maxRecDepth 20000 in
theorem ggX6_letter_X6_isWish : GoodIn wsX6_letter wsX6_isWish := goodIn_r _ [16, 1, 17, 18, 19, 20, 21, 22, 23, 24, 25, 26, 27, 28, 29, 30, 31, 32, 33, 34, 35, 36, 37, 38, 39, 40, 41, 42, 43, 44, 45, 46, 47, 48, 49, 50, 51, 52, 53, 54] rfl (by decide +kernel)
set_option maxRecDepth 20000 in
theorem gX6_letter_X6_isWish : GoodIn wsX6_letter (wsV RX6 180 RX6 yX6_isWish wsX6_isWish) := goodIn_app (goodIn_of _ (by decide +kernel)) ggX6_letter_X6_isWish
theorem dX6_letter_0 : decode cX6_letter 0 = .ok (.iload_n 3, 1) := by decide +kernel
theorem dX6_letter_1 : decode cX6_letter 1 = .ok (.ifCond .lt 8, 3) := by decide +kernel
theorem dX6_letter_4 : decode cX6_letter 4 = .ok (.iload_n 3, 1) := by decide +kernel
theorem dX6_letter_5 : decode cX6_letter 5 = .ok (.iconst 5, 1) := by decide +kernel
theorem dX6_letter_6 : decode cX6_letter 6 = .ok (.if_icmp .le 5, 3) := by decide +kernel
theorem dX6_letter_9 : decode cX6_letter 9 = .ok (.iconst (-1), 1) := by decide +kernel
theorem dX6_letter_10 : decode cX6_letter 10 = .ok (.ireturn, 1) := by decide +kernel
theorem dX6_letter_11 : decode cX6_letter 11 = .ok (.iload_n 1, 1) := by decide +kernel
theorem dX6_letter_12 : decode cX6_letter 12 = .ok (.ifCond .ne 25, 3) := by decide +kernel
theorem dX6_letter_15 : decode cX6_letter 15 = .ok (.aload_n 0, 1) := by decide +kernel
theorem dX6_letter_16 : decode cX6_letter 16 = .ok (.iload_n 2, 1) := by decide +kernel
theorem dX6_letter_17 : decode cX6_letter 17 = .ok (.invokevirtual 169, 3) := by decide +kernel
theorem dX6_letter_20 : decode cX6_letter 20 = .ok (.ifCond .eq 17, 3) := by decide +kernel
theorem dX6_letter_23 : decode cX6_letter 23 = .ok (.aload_n 0, 1) := by decide +kernel
theorem dX6_letter_24 : decode cX6_letter 24 = .ok (.getfield 16, 3) := by decide +kernel
theorem dX6_letter_27 : decode cX6_letter 27 = .ok (.getfield 173, 3) := by decide +kernel
theorem dX6_letter_30 : decode cX6_letter 30 = .ok (.iload_n 2, 1) := by decide +kernel
theorem dX6_letter_31 : decode cX6_letter 31 = .ok (.iaload, 1) := by decide +kernel
theorem dX6_letter_32 : decode cX6_letter 32 = .ok (.iload_n 3, 1) := by decide +kernel
theorem dX6_letter_33 : decode cX6_letter 33 = .ok (.invokestatic 176, 3) := by decide +kernel
theorem dX6_letter_36 : decode cX6_letter 36 = .ok (.ireturn, 1) := by decide +kernel
theorem dX6_letter_37 : decode cX6_letter 37 = .ok (.iload_n 1, 1) := by decide +kernel
theorem dX6_letter_38 : decode cX6_letter 38 = .ok (.iconst 1, 1) := by decide +kernel
theorem dX6_letter_39 : decode cX6_letter 39 = .ok (.if_icmp .ne 25, 3) := by decide +kernel
theorem dX6_letter_42 : decode cX6_letter 42 = .ok (.aload_n 0, 1) := by decide +kernel
theorem dX6_letter_43 : decode cX6_letter 43 = .ok (.iload_n 2, 1) := by decide +kernel
theorem dX6_letter_44 : decode cX6_letter 44 = .ok (.invokevirtual 180, 3) := by decide +kernel
theorem dX6_letter_47 : decode cX6_letter 47 = .ok (.ifCond .eq 17, 3) := by decide +kernel
theorem dX6_letter_50 : decode cX6_letter 50 = .ok (.aload_n 0, 1) := by decide +kernel
theorem dX6_letter_51 : decode cX6_letter 51 = .ok (.getfield 16, 3) := by decide +kernel
theorem dX6_letter_54 : decode cX6_letter 54 = .ok (.getfield 183, 3) := by decide +kernel
theorem dX6_letter_57 : decode cX6_letter 57 = .ok (.iload_n 2, 1) := by decide +kernel
theorem dX6_letter_58 : decode cX6_letter 58 = .ok (.iaload, 1) := by decide +kernel
theorem dX6_letter_59 : decode cX6_letter 59 = .ok (.iload_n 3, 1) := by decide +kernel
theorem dX6_letter_60 : decode cX6_letter 60 = .ok (.invokestatic 176, 3) := by decide +kernel
theorem dX6_letter_63 : decode cX6_letter 63 = .ok (.ireturn, 1) := by decide +kernel
theorem dX6_letter_64 : decode cX6_letter 64 = .ok (.iconst (-1), 1) := by decide +kernel
theorem dX6_letter_65 : decode cX6_letter 65 = .ok (.ireturn, 1) := by decide +kernel
set_option maxRecDepth 20000 in
theorem ggX6_thing_X6_isThing : GoodIn wsX6_thing wsX6_isThing := goodIn_r _ [12, 1, 13, 21, 22, 23, 24, 25, 26, 27, 28, 29, 30, 31, 32, 33, 34, 35, 36, 37, 38, 39, 40, 41, 42, 43, 44, 45, 46, 47, 48, 49, 50, 51, 52, 53, 54, 55, 56, 57] rfl (by decide +kernel)
set_option maxRecDepth 20000 in
theorem gX6_thing_X6_isThing : GoodIn wsX6_thing (wsV RX6 169 RX6 yX6_isThing wsX6_isThing) := goodIn_app (goodIn_of _ (by decide +kernel)) ggX6_thing_X6_isThing
set_option maxRecDepth 20000 in
theorem ggX6_thing_X5_giversOf : GoodIn wsX6_thing wsX5_giversOf := goodIn_r _ [18, 19, 20, 38, 39, 40, 41, 42, 43, 44, 45, 46, 47, 48, 49, 50, 51, 52, 53, 54, 55, 56, 57] rfl (by decide +kernel)
set_option maxRecDepth 20000 in
theorem gX6_thing_X5_giversOf : GoodIn wsX6_thing (wsV RX6 198 RX5 yX5_giversOf wsX5_giversOf) := goodIn_app (goodIn_of _ (by decide +kernel)) ggX6_thing_X5_giversOf
theorem dX6_thing_0 : decode cX6_thing 0 = .ok (.aload_n 0, 1) := by decide +kernel
theorem dX6_thing_1 : decode cX6_thing 1 = .ok (.iload_n 1, 1) := by decide +kernel
theorem dX6_thing_2 : decode cX6_thing 2 = .ok (.invokevirtual 169, 3) := by decide +kernel
theorem dX6_thing_5 : decode cX6_thing 5 = .ok (.ifCond .ne 5, 3) := by decide +kernel
theorem dX6_thing_8 : decode cX6_thing 8 = .ok (.iconst (-1), 1) := by decide +kernel
theorem dX6_thing_9 : decode cX6_thing 9 = .ok (.ireturn, 1) := by decide +kernel
theorem dX6_thing_10 : decode cX6_thing 10 = .ok (.iload_n 2, 1) := by decide +kernel
theorem dX6_thing_11 : decode cX6_thing 11 = .ok (.tableswitch 102 0 5 #[37, 47, 57, 69, 81, 93], 37) := by decide +kernel
theorem dX6_thing_48 : decode cX6_thing 48 = .ok (.aload_n 0, 1) := by decide +kernel
theorem dX6_thing_49 : decode cX6_thing 49 = .ok (.getfield 16, 3) := by decide +kernel
theorem dX6_thing_52 : decode cX6_thing 52 = .ok (.getfield 186, 3) := by decide +kernel
theorem dX6_thing_55 : decode cX6_thing 55 = .ok (.iload_n 1, 1) := by decide +kernel
theorem dX6_thing_56 : decode cX6_thing 56 = .ok (.iaload, 1) := by decide +kernel
theorem dX6_thing_57 : decode cX6_thing 57 = .ok (.ireturn, 1) := by decide +kernel
theorem dX6_thing_58 : decode cX6_thing 58 = .ok (.aload_n 0, 1) := by decide +kernel
theorem dX6_thing_59 : decode cX6_thing 59 = .ok (.getfield 16, 3) := by decide +kernel
theorem dX6_thing_62 : decode cX6_thing 62 = .ok (.getfield 189, 3) := by decide +kernel
theorem dX6_thing_65 : decode cX6_thing 65 = .ok (.iload_n 1, 1) := by decide +kernel
theorem dX6_thing_66 : decode cX6_thing 66 = .ok (.iaload, 1) := by decide +kernel
theorem dX6_thing_67 : decode cX6_thing 67 = .ok (.ireturn, 1) := by decide +kernel
theorem dX6_thing_68 : decode cX6_thing 68 = .ok (.aload_n 0, 1) := by decide +kernel
theorem dX6_thing_69 : decode cX6_thing 69 = .ok (.getfield 16, 3) := by decide +kernel
theorem dX6_thing_72 : decode cX6_thing 72 = .ok (.getfield 192, 3) := by decide +kernel
theorem dX6_thing_75 : decode cX6_thing 75 = .ok (.iload_n 1, 1) := by decide +kernel
theorem dX6_thing_76 : decode cX6_thing 76 = .ok (.ishr, 1) := by decide +kernel
theorem dX6_thing_77 : decode cX6_thing 77 = .ok (.iconst 1, 1) := by decide +kernel
theorem dX6_thing_78 : decode cX6_thing 78 = .ok (.iand, 1) := by decide +kernel
theorem dX6_thing_79 : decode cX6_thing 79 = .ok (.ireturn, 1) := by decide +kernel
theorem dX6_thing_80 : decode cX6_thing 80 = .ok (.aload_n 0, 1) := by decide +kernel
theorem dX6_thing_81 : decode cX6_thing 81 = .ok (.getfield 35, 3) := by decide +kernel
theorem dX6_thing_84 : decode cX6_thing 84 = .ok (.getfield 136, 3) := by decide +kernel
theorem dX6_thing_87 : decode cX6_thing 87 = .ok (.iload_n 1, 1) := by decide +kernel
theorem dX6_thing_88 : decode cX6_thing 88 = .ok (.ishr, 1) := by decide +kernel
theorem dX6_thing_89 : decode cX6_thing 89 = .ok (.iconst 1, 1) := by decide +kernel
theorem dX6_thing_90 : decode cX6_thing 90 = .ok (.iand, 1) := by decide +kernel
theorem dX6_thing_91 : decode cX6_thing 91 = .ok (.ireturn, 1) := by decide +kernel
theorem dX6_thing_92 : decode cX6_thing 92 = .ok (.aload_n 0, 1) := by decide +kernel
theorem dX6_thing_93 : decode cX6_thing 93 = .ok (.getfield 16, 3) := by decide +kernel
theorem dX6_thing_96 : decode cX6_thing 96 = .ok (.getfield 195, 3) := by decide +kernel
theorem dX6_thing_99 : decode cX6_thing 99 = .ok (.iload_n 1, 1) := by decide +kernel
theorem dX6_thing_100 : decode cX6_thing 100 = .ok (.ishr, 1) := by decide +kernel
theorem dX6_thing_101 : decode cX6_thing 101 = .ok (.iconst 1, 1) := by decide +kernel
theorem dX6_thing_102 : decode cX6_thing 102 = .ok (.iand, 1) := by decide +kernel
theorem dX6_thing_103 : decode cX6_thing 103 = .ok (.ireturn, 1) := by decide +kernel
theorem dX6_thing_104 : decode cX6_thing 104 = .ok (.aload_n 0, 1) := by decide +kernel
theorem dX6_thing_105 : decode cX6_thing 105 = .ok (.getfield 16, 3) := by decide +kernel
theorem dX6_thing_108 : decode cX6_thing 108 = .ok (.iload_n 1, 1) := by decide +kernel
theorem dX6_thing_109 : decode cX6_thing 109 = .ok (.invokevirtual 198, 3) := by decide +kernel
theorem dX6_thing_112 : decode cX6_thing 112 = .ok (.ireturn, 1) := by decide +kernel
theorem dX6_thing_113 : decode cX6_thing 113 = .ok (.iconst (-1), 1) := by decide +kernel
theorem dX6_thing_114 : decode cX6_thing 114 = .ok (.ireturn, 1) := by decide +kernel
set_option maxRecDepth 20000 in
theorem ggX6_wish_X6_isWish : GoodIn wsX6_wish wsX6_isWish := goodIn_r _ [12, 1, 13, 134, 135, 136, 137, 138, 139, 140, 141, 142, 143, 144, 145, 146, 147, 148, 149, 150, 151, 152, 153, 154, 155, 156, 157, 158, 159, 160, 161, 162, 163, 164, 165, 166, 167, 168, 169, 170] rfl (by decide +kernel)
set_option maxRecDepth 20000 in
theorem gX6_wish_X6_isWish : GoodIn wsX6_wish (wsV RX6 180 RX6 yX6_isWish wsX6_isWish) := goodIn_app (goodIn_of _ (by decide +kernel)) ggX6_wish_X6_isWish
set_option maxRecDepth 20000 in
theorem ggX6_wish_X5_lengthOf : GoodIn wsX6_wish wsX5_lengthOf := goodIn_r _ [18, 19, 20, 21, 17, 22, 23, 24, 25, 26, 27, 28, 29, 30, 31, 151, 152, 153, 154, 155, 156, 157, 158, 159, 160, 161, 162, 163, 164, 165, 166, 167, 168, 169, 170] rfl (by decide +kernel)
set_option maxRecDepth 20000 in
theorem gX6_wish_X5_lengthOf : GoodIn wsX6_wish (wsV RX6 213 RX5 yX5_lengthOf wsX5_lengthOf) := goodIn_app (goodIn_of _ (by decide +kernel)) ggX6_wish_X5_lengthOf
set_option maxRecDepth 20000 in
theorem ggX6_wish_X5_whyNot : GoodIn wsX6_wish wsX5_whyNot := goodIn_r _ [35, 36, 37, 38, 39, 17, 40, 41, 42, 43, 44, 45, 46, 47, 48, 49, 50, 51, 52, 53, 54, 55, 56, 57, 58, 59, 60, 61, 62, 63, 64, 65, 66, 67, 68, 69, 30, 70, 71, 72, 73, 74, 75, 76, 77, 78, 79, 80, 81, 19, 20, 21, 22, 23, 24, 25, 26, 27, 28, 29, 31, 82, 83, 84, 85, 86, 87, 88, 89, 90, 91, 92, 93, 94, 95, 96, 97, 98, 99, 100, 101, 102, 103, 104, 105, 15, 16, 18, 106, 107, 108, 109, 171, 172, 173, 174, 151, 152, 153, 154, 155, 156, 157, 158, 159, 160, 161, 162, 163, 164, 165, 166, 167, 168, 169, 170] rfl (by decide +kernel)
set_option maxRecDepth 20000 in
theorem gX6_wish_X5_whyNot : GoodIn wsX6_wish (wsV RX6 216 RX5 yX5_whyNot wsX5_whyNot) := goodIn_app (goodIn_of _ (by decide +kernel)) ggX6_wish_X5_whyNot
set_option maxRecDepth 20000 in
theorem ggX6_wish_X5_darkOf : GoodIn wsX6_wish wsX5_darkOf := goodIn_r _ [113, 41, 42, 43, 44, 45, 46, 47, 48, 49, 50, 17, 51, 52, 53, 54, 55, 56, 57, 58, 59, 60, 61, 62, 63, 64, 65, 66, 36, 67, 68, 69, 30, 70, 71, 72, 73, 74, 75, 76, 77, 78, 79, 80, 81, 19, 20, 21, 22, 23, 24, 25, 26, 27, 28, 29, 31, 82, 83, 84, 85, 86, 87, 88, 89, 90, 91, 92, 93, 94, 95, 96, 97, 98, 151, 152, 153, 154, 155, 156, 157, 158, 159, 160, 161, 162, 163, 164, 165, 166, 167, 168, 169, 170, 171, 172, 173, 174] rfl (by decide +kernel)
set_option maxRecDepth 20000 in
theorem gX6_wish_X5_darkOf : GoodIn wsX6_wish (wsV RX6 220 RX5 yX5_darkOf wsX5_darkOf) := goodIn_app (goodIn_of _ (by decide +kernel)) ggX6_wish_X5_darkOf
set_option maxRecDepth 20000 in
theorem ggX6_wish_X1_timesTold : GoodIn wsX6_wish wsX1_timesTold := goodIn_r _ [118, 119, 120, 121, 117, 122, 123, 124, 42, 43, 44, 125, 126, 127, 128, 129, 130, 131, 132, 133, 175, 176, 177, 178, 179, 180] rfl (by decide +kernel)
set_option maxRecDepth 20000 in
theorem gX6_wish_X1_timesTold : GoodIn wsX6_wish (wsV RX6 223 RX1 yX1_timesTold wsX1_timesTold) := goodIn_app (goodIn_of _ (by decide +kernel)) ggX6_wish_X1_timesTold
theorem dX6_wish_0 : decode cX6_wish 0 = .ok (.aload_n 0, 1) := by decide +kernel
theorem dX6_wish_1 : decode cX6_wish 1 = .ok (.iload_n 1, 1) := by decide +kernel
theorem dX6_wish_2 : decode cX6_wish 2 = .ok (.invokevirtual 180, 3) := by decide +kernel
theorem dX6_wish_5 : decode cX6_wish 5 = .ok (.ifCond .ne 5, 3) := by decide +kernel
theorem dX6_wish_8 : decode cX6_wish 8 = .ok (.iconst (-1), 1) := by decide +kernel
theorem dX6_wish_9 : decode cX6_wish 9 = .ok (.ireturn, 1) := by decide +kernel
theorem dX6_wish_10 : decode cX6_wish 10 = .ok (.iload_n 2, 1) := by decide +kernel
theorem dX6_wish_11 : decode cX6_wish 11 = .ok (.tableswitch 129 0 7 #[45, 55, 65, 75, 85, 94, 107, 120], 45) := by decide +kernel
theorem dX6_wish_56 : decode cX6_wish 56 = .ok (.aload_n 0, 1) := by decide +kernel
theorem dX6_wish_57 : decode cX6_wish 57 = .ok (.getfield 16, 3) := by decide +kernel
theorem dX6_wish_60 : decode cX6_wish 60 = .ok (.getfield 201, 3) := by decide +kernel
theorem dX6_wish_63 : decode cX6_wish 63 = .ok (.iload_n 1, 1) := by decide +kernel
theorem dX6_wish_64 : decode cX6_wish 64 = .ok (.iaload, 1) := by decide +kernel
theorem dX6_wish_65 : decode cX6_wish 65 = .ok (.ireturn, 1) := by decide +kernel
theorem dX6_wish_66 : decode cX6_wish 66 = .ok (.aload_n 0, 1) := by decide +kernel
theorem dX6_wish_67 : decode cX6_wish 67 = .ok (.getfield 16, 3) := by decide +kernel
theorem dX6_wish_70 : decode cX6_wish 70 = .ok (.getfield 204, 3) := by decide +kernel
theorem dX6_wish_73 : decode cX6_wish 73 = .ok (.iload_n 1, 1) := by decide +kernel
theorem dX6_wish_74 : decode cX6_wish 74 = .ok (.iaload, 1) := by decide +kernel
theorem dX6_wish_75 : decode cX6_wish 75 = .ok (.ireturn, 1) := by decide +kernel
theorem dX6_wish_76 : decode cX6_wish 76 = .ok (.aload_n 0, 1) := by decide +kernel
theorem dX6_wish_77 : decode cX6_wish 77 = .ok (.getfield 16, 3) := by decide +kernel
theorem dX6_wish_80 : decode cX6_wish 80 = .ok (.getfield 207, 3) := by decide +kernel
theorem dX6_wish_83 : decode cX6_wish 83 = .ok (.iload_n 1, 1) := by decide +kernel
theorem dX6_wish_84 : decode cX6_wish 84 = .ok (.iaload, 1) := by decide +kernel
theorem dX6_wish_85 : decode cX6_wish 85 = .ok (.ireturn, 1) := by decide +kernel
theorem dX6_wish_86 : decode cX6_wish 86 = .ok (.aload_n 0, 1) := by decide +kernel
theorem dX6_wish_87 : decode cX6_wish 87 = .ok (.getfield 16, 3) := by decide +kernel
theorem dX6_wish_90 : decode cX6_wish 90 = .ok (.getfield 210, 3) := by decide +kernel
theorem dX6_wish_93 : decode cX6_wish 93 = .ok (.iload_n 1, 1) := by decide +kernel
theorem dX6_wish_94 : decode cX6_wish 94 = .ok (.iaload, 1) := by decide +kernel
theorem dX6_wish_95 : decode cX6_wish 95 = .ok (.ireturn, 1) := by decide +kernel
theorem dX6_wish_96 : decode cX6_wish 96 = .ok (.aload_n 0, 1) := by decide +kernel
theorem dX6_wish_97 : decode cX6_wish 97 = .ok (.getfield 16, 3) := by decide +kernel
theorem dX6_wish_100 : decode cX6_wish 100 = .ok (.iload_n 1, 1) := by decide +kernel
theorem dX6_wish_101 : decode cX6_wish 101 = .ok (.invokevirtual 213, 3) := by decide +kernel
theorem dX6_wish_104 : decode cX6_wish 104 = .ok (.ireturn, 1) := by decide +kernel
theorem dX6_wish_105 : decode cX6_wish 105 = .ok (.aload_n 0, 1) := by decide +kernel
theorem dX6_wish_106 : decode cX6_wish 106 = .ok (.getfield 16, 3) := by decide +kernel
theorem dX6_wish_109 : decode cX6_wish 109 = .ok (.aload_n 0, 1) := by decide +kernel
theorem dX6_wish_110 : decode cX6_wish 110 = .ok (.getfield 35, 3) := by decide +kernel
theorem dX6_wish_113 : decode cX6_wish 113 = .ok (.iload_n 1, 1) := by decide +kernel
theorem dX6_wish_114 : decode cX6_wish 114 = .ok (.invokevirtual 216, 3) := by decide +kernel
theorem dX6_wish_117 : decode cX6_wish 117 = .ok (.ireturn, 1) := by decide +kernel
theorem dX6_wish_118 : decode cX6_wish 118 = .ok (.aload_n 0, 1) := by decide +kernel
theorem dX6_wish_119 : decode cX6_wish 119 = .ok (.getfield 16, 3) := by decide +kernel
theorem dX6_wish_122 : decode cX6_wish 122 = .ok (.aload_n 0, 1) := by decide +kernel
theorem dX6_wish_123 : decode cX6_wish 123 = .ok (.getfield 35, 3) := by decide +kernel
theorem dX6_wish_126 : decode cX6_wish 126 = .ok (.iload_n 1, 1) := by decide +kernel
theorem dX6_wish_127 : decode cX6_wish 127 = .ok (.invokevirtual 220, 3) := by decide +kernel
theorem dX6_wish_130 : decode cX6_wish 130 = .ok (.ireturn, 1) := by decide +kernel
theorem dX6_wish_131 : decode cX6_wish 131 = .ok (.aload_n 0, 1) := by decide +kernel
theorem dX6_wish_132 : decode cX6_wish 132 = .ok (.getfield 45, 3) := by decide +kernel
theorem dX6_wish_135 : decode cX6_wish 135 = .ok (.iload_n 1, 1) := by decide +kernel
theorem dX6_wish_136 : decode cX6_wish 136 = .ok (.invokevirtual 223, 3) := by decide +kernel
theorem dX6_wish_139 : decode cX6_wish 139 = .ok (.ireturn, 1) := by decide +kernel
theorem dX6_wish_140 : decode cX6_wish 140 = .ok (.iconst (-1), 1) := by decide +kernel
theorem dX6_wish_141 : decode cX6_wish 141 = .ok (.ireturn, 1) := by decide +kernel
set_option maxRecDepth 20000 in
theorem ggX6_say_X6_isWish : GoodIn wsX6_say wsX6_isWish := goodIn_r _ [9, 1, 10, 165, 166, 167, 168, 169, 170, 171, 172, 173, 174, 175, 176, 177, 178, 179, 180, 181, 186, 187, 188, 189, 190, 191, 192, 193, 194, 195, 196, 197, 198, 199, 200, 201, 202, 203, 204, 205] rfl (by decide +kernel)
set_option maxRecDepth 20000 in
theorem gX6_say_X6_isWish : GoodIn wsX6_say (wsV RX6 180 RX6 yX6_isWish wsX6_isWish) := goodIn_app (goodIn_of _ (by decide +kernel)) ggX6_say_X6_isWish
set_option maxRecDepth 20000 in
theorem ggX6_say_X5_whyNot : GoodIn wsX6_say wsX5_whyNot := goodIn_r _ [15, 16, 17, 18, 19, 14, 20, 21, 22, 23, 24, 25, 26, 27, 28, 29, 30, 31, 32, 33, 34, 35, 36, 37, 38, 39, 40, 41, 42, 43, 44, 45, 46, 47, 48, 49, 50, 51, 52, 53, 54, 55, 56, 57, 58, 59, 60, 61, 62, 63, 64, 65, 66, 67, 68, 69, 70, 71, 72, 73, 74, 75, 76, 77, 78, 79, 80, 81, 82, 83, 84, 85, 86, 87, 88, 89, 90, 91, 92, 93, 94, 95, 96, 97, 98, 99, 100, 101, 102, 103, 104, 105, 182, 183, 184, 185, 186, 187, 188, 189, 190, 191, 192, 193, 194, 195, 196, 197, 198, 199, 200, 201, 202, 203, 204, 205] rfl (by decide +kernel)
set_option maxRecDepth 20000 in
theorem gX6_say_X5_whyNot : GoodIn wsX6_say (wsV RX6 216 RX5 yX5_whyNot wsX5_whyNot) := goodIn_app (goodIn_of _ (by decide +kernel)) ggX6_say_X5_whyNot
set_option maxRecDepth 20000 in
theorem ggX6_say_X6_refuse : GoodIn wsX6_say wsX6_refuse := goodIn_r _ [109, 110, 165, 166, 167, 168, 169, 170, 171, 172, 173, 174, 175, 176, 177, 178, 179, 180, 181] rfl (by decide +kernel)
set_option maxRecDepth 20000 in
theorem gX6_say_X6_refuse : GoodIn wsX6_say (wsV RX6 95 RX6 yX6_refuse wsX6_refuse) := goodIn_app (goodIn_of _ (by decide +kernel)) ggX6_say_X6_refuse
set_option maxRecDepth 20000 in
theorem ggX6_say_X1_remember : GoodIn wsX6_say wsX1_remember := goodIn_r _ [115, 116, 117, 118, 119, 120, 121, 22, 23, 24, 122, 123, 124, 125, 126, 127, 128, 129, 130, 131, 132, 133, 134, 206, 207, 208, 209, 210, 211, 182, 183, 184, 185] rfl (by decide +kernel)
set_option maxRecDepth 20000 in
theorem gX6_say_X1_remember : GoodIn wsX6_say (wsV RX6 226 RX1 yX1_remember wsX1_remember) := goodIn_app (goodIn_of _ (by decide +kernel)) ggX6_say_X1_remember
set_option maxRecDepth 20000 in
theorem ggX6_say_X6_grant : GoodIn wsX6_say wsX6_grant := goodIn_r _ [138, 1, 2, 139, 140, 141, 3, 4, 142, 143, 144, 14, 145, 47, 146, 147, 148, 149, 21, 22, 23, 24, 25, 26, 27, 28, 29, 30, 31, 32, 33, 34, 35, 36, 37, 38, 39, 40, 41, 42, 43, 44, 45, 46, 16, 48, 49, 50, 51, 52, 53, 54, 55, 56, 57, 58, 59, 60, 61, 62, 63, 64, 65, 66, 67, 68, 69, 70, 71, 72, 73, 74, 75, 76, 77, 78, 79, 80, 81, 82, 83, 84, 85, 86, 87, 88, 89, 90, 91, 150, 132, 133, 125, 134, 127, 128, 129, 130, 151, 152, 153, 154, 155, 156, 157, 158, 97, 159, 160, 161, 162, 114, 163, 164, 119, 165, 166, 167, 168, 169, 170, 171, 172, 173, 174, 175, 176, 177, 178, 179, 180, 181, 186, 187, 188, 189, 190, 191, 192, 193, 194, 195, 196, 197, 198, 199, 200, 201, 202, 203, 204, 205, 182, 183, 184, 185, 206, 207, 208, 209, 210, 211] rfl (by decide +kernel)
set_option maxRecDepth 20000 in
theorem gX6_say_X6_grant : GoodIn wsX6_say (wsV RX6 230 RX6 yX6_grant wsX6_grant) := goodIn_app (goodIn_of _ (by decide +kernel)) ggX6_say_X6_grant
theorem dX6_say_0 : decode cX6_say 0 = .ok (.aload_n 0, 1) := by decide +kernel
theorem dX6_say_1 : decode cX6_say 1 = .ok (.iload_n 1, 1) := by decide +kernel
theorem dX6_say_2 : decode cX6_say 2 = .ok (.invokevirtual 180, 3) := by decide +kernel
theorem dX6_say_5 : decode cX6_say 5 = .ok (.ifCond .eq 18, 3) := by decide +kernel
theorem dX6_say_8 : decode cX6_say 8 = .ok (.aload_n 0, 1) := by decide +kernel
theorem dX6_say_9 : decode cX6_say 9 = .ok (.getfield 16, 3) := by decide +kernel
theorem dX6_say_12 : decode cX6_say 12 = .ok (.aload_n 0, 1) := by decide +kernel
theorem dX6_say_13 : decode cX6_say 13 = .ok (.getfield 35, 3) := by decide +kernel
theorem dX6_say_16 : decode cX6_say 16 = .ok (.iload_n 1, 1) := by decide +kernel
theorem dX6_say_17 : decode cX6_say 17 = .ok (.invokevirtual 216, 3) := by decide +kernel
theorem dX6_say_20 : decode cX6_say 20 = .ok (.ifCond .eq 9, 3) := by decide +kernel
theorem dX6_say_23 : decode cX6_say 23 = .ok (.aload_n 0, 1) := by decide +kernel
theorem dX6_say_24 : decode cX6_say 24 = .ok (.iconst 2, 1) := by decide +kernel
theorem dX6_say_25 : decode cX6_say 25 = .ok (.invokevirtual 95, 3) := by decide +kernel
theorem dX6_say_28 : decode cX6_say 28 = .ok (.ireturn, 1) := by decide +kernel
theorem dX6_say_29 : decode cX6_say 29 = .ok (.aload_n 0, 1) := by decide +kernel
theorem dX6_say_30 : decode cX6_say 30 = .ok (.getfield 45, 3) := by decide +kernel
theorem dX6_say_33 : decode cX6_say 33 = .ok (.aload_n 0, 1) := by decide +kernel
theorem dX6_say_34 : decode cX6_say 34 = .ok (.getfield 35, 3) := by decide +kernel
theorem dX6_say_37 : decode cX6_say 37 = .ok (.invokevirtual 226, 3) := by decide +kernel
theorem dX6_say_40 : decode cX6_say 40 = .ok (.aload_n 0, 1) := by decide +kernel
theorem dX6_say_41 : decode cX6_say 41 = .ok (.iload_n 1, 1) := by decide +kernel
theorem dX6_say_42 : decode cX6_say 42 = .ok (.invokevirtual 230, 3) := by decide +kernel
theorem dX6_say_45 : decode cX6_say 45 = .ok (.aload_n 0, 1) := by decide +kernel
theorem dX6_say_46 : decode cX6_say 46 = .ok (.getfield 35, 3) := by decide +kernel
theorem dX6_say_49 : decode cX6_say 49 = .ok (.getfield 140, 3) := by decide +kernel
theorem dX6_say_52 : decode cX6_say 52 = .ok (.ireturn, 1) := by decide +kernel
set_option maxRecDepth 20000 in
theorem ggX6_night_X6_refuse : GoodIn wsX6_night wsX6_refuse := goodIn_r _ [9, 10, 52, 53, 54, 55, 56, 57, 58, 59, 60, 61, 62, 63, 64, 65, 66, 67, 68] rfl (by decide +kernel)
set_option maxRecDepth 20000 in
theorem gX6_night_X6_refuse : GoodIn wsX6_night (wsV RX6 95 RX6 yX6_refuse wsX6_refuse) := goodIn_app (goodIn_of _ (by decide +kernel)) ggX6_night_X6_refuse
set_option maxRecDepth 20000 in
theorem ggX6_night_X1_remember : GoodIn wsX6_night wsX1_remember := goodIn_r _ [15, 16, 17, 18, 19, 20, 21, 22, 23, 24, 25, 26, 27, 28, 29, 30, 31, 32, 33, 34, 35, 36, 37, 73, 74, 75, 76, 77, 78, 69, 70, 71, 72] rfl (by decide +kernel)
set_option maxRecDepth 20000 in
theorem gX6_night_X1_remember : GoodIn wsX6_night (wsV RX6 226 RX1 yX1_remember wsX1_remember) := goodIn_app (goodIn_of _ (by decide +kernel)) ggX6_night_X1_remember
set_option maxRecDepth 20000 in
theorem ggX6_night_X5_endDay : GoodIn wsX6_night wsX5_endDay := goodIn_r _ [42, 43, 44, 45, 46, 47, 48, 23, 49, 50, 51, 35, 36, 28, 37, 30, 31, 32, 33, 69, 70, 71, 72, 79, 80, 81, 82, 83, 84, 85, 86, 87, 88, 89, 90, 91, 92, 93, 94, 95, 96, 97, 98] rfl (by decide +kernel)
set_option maxRecDepth 20000 in
theorem gX6_night_X5_endDay : GoodIn wsX6_night (wsV RX6 233 RX5 yX5_endDay wsX5_endDay) := goodIn_app (goodIn_of _ (by decide +kernel)) ggX6_night_X5_endDay
theorem dX6_night_0 : decode cX6_night 0 = .ok (.aload_n 0, 1) := by decide +kernel
theorem dX6_night_1 : decode cX6_night 1 = .ok (.getfield 35, 3) := by decide +kernel
theorem dX6_night_4 : decode cX6_night 4 = .ok (.getfield 146, 3) := by decide +kernel
theorem dX6_night_7 : decode cX6_night 7 = .ok (.sipush 9999, 3) := by decide +kernel
theorem dX6_night_10 : decode cX6_night 10 = .ok (.if_icmp .lt 9, 3) := by decide +kernel
theorem dX6_night_13 : decode cX6_night 13 = .ok (.aload_n 0, 1) := by decide +kernel
theorem dX6_night_14 : decode cX6_night 14 = .ok (.iconst 3, 1) := by decide +kernel
theorem dX6_night_15 : decode cX6_night 15 = .ok (.invokevirtual 95, 3) := by decide +kernel
theorem dX6_night_18 : decode cX6_night 18 = .ok (.ireturn, 1) := by decide +kernel
theorem dX6_night_19 : decode cX6_night 19 = .ok (.aload_n 0, 1) := by decide +kernel
theorem dX6_night_20 : decode cX6_night 20 = .ok (.getfield 45, 3) := by decide +kernel
theorem dX6_night_23 : decode cX6_night 23 = .ok (.aload_n 0, 1) := by decide +kernel
theorem dX6_night_24 : decode cX6_night 24 = .ok (.getfield 35, 3) := by decide +kernel
theorem dX6_night_27 : decode cX6_night 27 = .ok (.invokevirtual 226, 3) := by decide +kernel
theorem dX6_night_30 : decode cX6_night 30 = .ok (.aload_n 0, 1) := by decide +kernel
theorem dX6_night_31 : decode cX6_night 31 = .ok (.getfield 16, 3) := by decide +kernel
theorem dX6_night_34 : decode cX6_night 34 = .ok (.aload_n 0, 1) := by decide +kernel
theorem dX6_night_35 : decode cX6_night 35 = .ok (.getfield 35, 3) := by decide +kernel
theorem dX6_night_38 : decode cX6_night 38 = .ok (.invokevirtual 233, 3) := by decide +kernel
theorem dX6_night_41 : decode cX6_night 41 = .ok (.aload_n 0, 1) := by decide +kernel
theorem dX6_night_42 : decode cX6_night 42 = .ok (.getfield 35, 3) := by decide +kernel
theorem dX6_night_45 : decode cX6_night 45 = .ok (.getfield 146, 3) := by decide +kernel
theorem dX6_night_48 : decode cX6_night 48 = .ok (.ireturn, 1) := by decide +kernel
set_option maxRecDepth 20000 in
theorem ggX6_days_X6_refuse : GoodIn wsX6_days wsX6_refuse := goodIn_r _ [8, 9, 182, 183, 184, 185, 186, 187, 188, 189, 190, 191, 192, 193, 194, 195, 196, 197, 198] rfl (by decide +kernel)
set_option maxRecDepth 20000 in
theorem gX6_days_X6_refuse : GoodIn wsX6_days (wsV RX6 95 RX6 yX6_refuse wsX6_refuse) := goodIn_app (goodIn_of _ (by decide +kernel)) ggX6_days_X6_refuse
set_option maxRecDepth 20000 in
theorem ggX6_days_X1_remember : GoodIn wsX6_days wsX1_remember := goodIn_r _ [14, 15, 16, 17, 18, 19, 20, 21, 22, 23, 24, 25, 26, 27, 28, 29, 30, 31, 32, 33, 34, 35, 36, 203, 204, 205, 206, 207, 208, 199, 200, 201, 202] rfl (by decide +kernel)
set_option maxRecDepth 20000 in
theorem gX6_days_X1_remember : GoodIn wsX6_days (wsV RX6 226 RX1 yX1_remember wsX1_remember) := goodIn_app (goodIn_of _ (by decide +kernel)) ggX6_days_X1_remember
set_option maxRecDepth 20000 in
theorem ggX6_days_X6_dayBySeed : GoodIn wsX6_days wsX6_dayBySeed := goodIn_r _ [40, 41, 1, 42, 43, 44, 7, 45, 46, 47, 48, 49, 50, 51, 52, 53, 54, 55, 56, 57, 58, 59, 60, 61, 62, 63, 64, 65, 66, 67, 68, 69, 70, 71, 72, 21, 22, 23, 73, 74, 75, 76, 77, 78, 79, 80, 81, 82, 83, 84, 85, 86, 87, 88, 89, 90, 91, 92, 93, 94, 95, 96, 97, 98, 99, 100, 101, 102, 103, 104, 105, 106, 107, 108, 109, 110, 111, 112, 113, 114, 115, 116, 117, 118, 119, 120, 121, 122, 123, 124, 125, 126, 127, 128, 129, 130, 131, 132, 133, 134, 135, 136, 137, 138, 139, 140, 141, 142, 143, 144, 145, 146, 147, 148, 149, 150, 151, 2, 3, 152, 153, 154, 155, 156, 157, 158, 159, 160, 161, 34, 35, 27, 36, 29, 30, 31, 32, 162, 163, 164, 165, 166, 167, 168, 169, 170, 171, 172, 173, 13, 174, 175, 18, 176, 177, 178, 179, 180, 181, 182, 183, 184, 185, 186, 187, 188, 189, 190, 191, 192, 193, 194, 195, 196, 197, 198, 209, 210, 211, 212, 213, 214, 215, 216, 217, 218, 219, 220, 221, 222, 223, 224, 225, 226, 227, 228, 199, 200, 201, 202, 203, 204, 205, 206, 207, 208] rfl (by decide +kernel)
set_option maxRecDepth 20000 in
theorem gX6_days_X6_dayBySeed : GoodIn wsX6_days (wsV RX6 236 RX6 yX6_dayBySeed wsX6_dayBySeed) := goodIn_app (goodIn_of _ (by decide +kernel)) ggX6_days_X6_dayBySeed
theorem dX6_days_0 : decode cX6_days 0 = .ok (.iload_n 1, 1) := by decide +kernel
theorem dX6_days_1 : decode cX6_days 1 = .ok (.iconst 1, 1) := by decide +kernel
theorem dX6_days_2 : decode cX6_days 2 = .ok (.if_icmp .lt 24, 3) := by decide +kernel
theorem dX6_days_5 : decode cX6_days 5 = .ok (.iload_n 1, 1) := by decide +kernel
theorem dX6_days_6 : decode cX6_days 6 = .ok (.bipush 40, 2) := by decide +kernel
theorem dX6_days_8 : decode cX6_days 8 = .ok (.if_icmp .gt 18, 3) := by decide +kernel
theorem dX6_days_11 : decode cX6_days 11 = .ok (.aload_n 0, 1) := by decide +kernel
theorem dX6_days_12 : decode cX6_days 12 = .ok (.getfield 35, 3) := by decide +kernel
theorem dX6_days_15 : decode cX6_days 15 = .ok (.getfield 146, 3) := by decide +kernel
theorem dX6_days_18 : decode cX6_days 18 = .ok (.iload_n 1, 1) := by decide +kernel
theorem dX6_days_19 : decode cX6_days 19 = .ok (.iadd, 1) := by decide +kernel
theorem dX6_days_20 : decode cX6_days 20 = .ok (.sipush 9999, 3) := by decide +kernel
theorem dX6_days_23 : decode cX6_days 23 = .ok (.if_icmp .le 9, 3) := by decide +kernel
theorem dX6_days_26 : decode cX6_days 26 = .ok (.aload_n 0, 1) := by decide +kernel
theorem dX6_days_27 : decode cX6_days 27 = .ok (.iconst 3, 1) := by decide +kernel
theorem dX6_days_28 : decode cX6_days 28 = .ok (.invokevirtual 95, 3) := by decide +kernel
theorem dX6_days_31 : decode cX6_days 31 = .ok (.ireturn, 1) := by decide +kernel
theorem dX6_days_32 : decode cX6_days 32 = .ok (.aload_n 0, 1) := by decide +kernel
theorem dX6_days_33 : decode cX6_days 33 = .ok (.getfield 45, 3) := by decide +kernel
theorem dX6_days_36 : decode cX6_days 36 = .ok (.aload_n 0, 1) := by decide +kernel
theorem dX6_days_37 : decode cX6_days 37 = .ok (.getfield 35, 3) := by decide +kernel
theorem dX6_days_40 : decode cX6_days 40 = .ok (.invokevirtual 226, 3) := by decide +kernel
theorem dX6_days_43 : decode cX6_days 43 = .ok (.iconst 0, 1) := by decide +kernel
theorem dX6_days_44 : decode cX6_days 44 = .ok (.istore_n 2, 1) := by decide +kernel
theorem dX6_days_45 : decode cX6_days 45 = .ok (.iconst 0, 1) := by decide +kernel
theorem dX6_days_46 : decode cX6_days 46 = .ok (.istore_n 3, 1) := by decide +kernel
theorem dX6_days_47 : decode cX6_days 47 = .ok (.iload_n 3, 1) := by decide +kernel
theorem dX6_days_48 : decode cX6_days 48 = .ok (.iload_n 1, 1) := by decide +kernel
theorem dX6_days_49 : decode cX6_days 49 = .ok (.if_icmp .ge 16, 3) := by decide +kernel
theorem dX6_days_52 : decode cX6_days 52 = .ok (.iload_n 2, 1) := by decide +kernel
theorem dX6_days_53 : decode cX6_days 53 = .ok (.aload_n 0, 1) := by decide +kernel
theorem dX6_days_54 : decode cX6_days 54 = .ok (.invokevirtual 236, 3) := by decide +kernel
theorem dX6_days_57 : decode cX6_days 57 = .ok (.iadd, 1) := by decide +kernel
theorem dX6_days_58 : decode cX6_days 58 = .ok (.istore_n 2, 1) := by decide +kernel
theorem dX6_days_59 : decode cX6_days 59 = .ok (.iinc 3 1, 3) := by decide +kernel
theorem dX6_days_62 : decode cX6_days 62 = .ok (.goto (-15), 3) := by decide +kernel
theorem dX6_days_65 : decode cX6_days 65 = .ok (.iload_n 2, 1) := by decide +kernel
theorem dX6_days_66 : decode cX6_days 66 = .ok (.ireturn, 1) := by decide +kernel
set_option maxRecDepth 20000 in
theorem ggX6_undo_X6_refuse : GoodIn wsX6_undo wsX6_refuse := goodIn_r _ [8, 9, 33, 34, 35, 36, 37, 38, 39, 40, 41, 42, 43, 44, 45, 46, 47, 48, 49] rfl (by decide +kernel)
set_option maxRecDepth 20000 in
theorem gX6_undo_X6_refuse : GoodIn wsX6_undo (wsV RX6 95 RX6 yX6_refuse wsX6_refuse) := goodIn_app (goodIn_of _ (by decide +kernel)) ggX6_undo_X6_refuse
set_option maxRecDepth 20000 in
theorem ggX6_undo_X1_bringBack : GoodIn wsX6_undo wsX1_bringBack := goodIn_r _ [14, 15, 16, 17, 18, 19, 20, 21, 22, 23, 24, 25, 26, 27, 28, 29, 30, 31, 32, 50, 51, 52, 53, 54, 55, 56, 57, 58, 59] rfl (by decide +kernel)
set_option maxRecDepth 20000 in
theorem gX6_undo_X1_bringBack : GoodIn wsX6_undo (wsV RX6 239 RX1 yX1_bringBack wsX1_bringBack) := goodIn_app (goodIn_of _ (by decide +kernel)) ggX6_undo_X1_bringBack
theorem dX6_undo_0 : decode cX6_undo 0 = .ok (.aload_n 0, 1) := by decide +kernel
theorem dX6_undo_1 : decode cX6_undo 1 = .ok (.getfield 45, 3) := by decide +kernel
theorem dX6_undo_4 : decode cX6_undo 4 = .ok (.getfield 166, 3) := by decide +kernel
theorem dX6_undo_7 : decode cX6_undo 7 = .ok (.ifCond .ne 11, 3) := by decide +kernel
theorem dX6_undo_10 : decode cX6_undo 10 = .ok (.aload_n 0, 1) := by decide +kernel
theorem dX6_undo_11 : decode cX6_undo 11 = .ok (.iconst 4, 1) := by decide +kernel
theorem dX6_undo_12 : decode cX6_undo 12 = .ok (.invokevirtual 95, 3) := by decide +kernel
theorem dX6_undo_15 : decode cX6_undo 15 = .ok (.pop, 1) := by decide +kernel
theorem dX6_undo_16 : decode cX6_undo 16 = .ok (.iconst 0, 1) := by decide +kernel
theorem dX6_undo_17 : decode cX6_undo 17 = .ok (.ireturn, 1) := by decide +kernel
theorem dX6_undo_18 : decode cX6_undo 18 = .ok (.aload_n 0, 1) := by decide +kernel
theorem dX6_undo_19 : decode cX6_undo 19 = .ok (.getfield 45, 3) := by decide +kernel
theorem dX6_undo_22 : decode cX6_undo 22 = .ok (.aload_n 0, 1) := by decide +kernel
theorem dX6_undo_23 : decode cX6_undo 23 = .ok (.getfield 35, 3) := by decide +kernel
theorem dX6_undo_26 : decode cX6_undo 26 = .ok (.invokevirtual 239, 3) := by decide +kernel
theorem dX6_undo_29 : decode cX6_undo 29 = .ok (.iconst 1, 1) := by decide +kernel
theorem dX6_undo_30 : decode cX6_undo 30 = .ok (.ireturn, 1) := by decide +kernel
set_option maxRecDepth 20000 in
theorem ggX6_seed_X6_refuse : GoodIn wsX6_seed wsX6_refuse := goodIn_r _ [6, 7, 8, 9, 10, 11, 12, 13, 14, 15, 16, 17, 18, 19, 20, 21, 22, 23, 24] rfl (by decide +kernel)
set_option maxRecDepth 20000 in
theorem gX6_seed_X6_refuse : GoodIn wsX6_seed (wsV RX6 95 RX6 yX6_refuse wsX6_refuse) := goodIn_app (goodIn_of _ (by decide +kernel)) ggX6_seed_X6_refuse
theorem dX6_seed_0 : decode cX6_seed 0 = .ok (.iload_n 1, 1) := by decide +kernel
theorem dX6_seed_1 : decode cX6_seed 1 = .ok (.ifCond .ge 11, 3) := by decide +kernel
theorem dX6_seed_4 : decode cX6_seed 4 = .ok (.aload_n 0, 1) := by decide +kernel
theorem dX6_seed_5 : decode cX6_seed 5 = .ok (.iconst 5, 1) := by decide +kernel
theorem dX6_seed_6 : decode cX6_seed 6 = .ok (.invokevirtual 95, 3) := by decide +kernel
theorem dX6_seed_9 : decode cX6_seed 9 = .ok (.pop, 1) := by decide +kernel
theorem dX6_seed_10 : decode cX6_seed 10 = .ok (.iconst 0, 1) := by decide +kernel
theorem dX6_seed_11 : decode cX6_seed 11 = .ok (.ireturn, 1) := by decide +kernel
theorem dX6_seed_12 : decode cX6_seed 12 = .ok (.aload_n 0, 1) := by decide +kernel
theorem dX6_seed_13 : decode cX6_seed 13 = .ok (.iload_n 1, 1) := by decide +kernel
theorem dX6_seed_14 : decode cX6_seed 14 = .ok (.putfield 58, 3) := by decide +kernel
theorem dX6_seed_17 : decode cX6_seed 17 = .ok (.iconst 1, 1) := by decide +kernel
theorem dX6_seed_18 : decode cX6_seed 18 = .ok (.ireturn, 1) := by decide +kernel
set_option maxRecDepth 20000 in
theorem ggX6_kept_X1_told : GoodIn wsX6_kept wsX1_told := goodIn_r _ [6, 7, 8, 9, 10, 11, 39, 40, 41, 42, 43, 44] rfl (by decide +kernel)
set_option maxRecDepth 20000 in
theorem gX6_kept_X1_told : GoodIn wsX6_kept (wsV RX6 163 RX1 yX1_told wsX1_told) := goodIn_app (goodIn_of _ (by decide +kernel)) ggX6_kept_X1_told
set_option maxRecDepth 20000 in
theorem ggX6_kept_X1_tell : GoodIn wsX6_kept wsX1_tell := goodIn_r _ [15, 16, 17, 18, 5, 19, 7, 20, 21, 3, 4, 6, 8, 9, 10, 11, 39, 40, 41, 42, 43, 44] rfl (by decide +kernel)
set_option maxRecDepth 20000 in
theorem gX6_kept_X1_tell : GoodIn wsX6_kept (wsV RX6 242 RX1 yX1_tell wsX1_tell) := goodIn_app (goodIn_of _ (by decide +kernel)) ggX6_kept_X1_tell
theorem dX6_kept_0 : decode cX6_kept 0 = .ok (.iload_n 1, 1) := by decide +kernel
theorem dX6_kept_1 : decode cX6_kept 1 = .ok (.ifCond .lt 14, 3) := by decide +kernel
theorem dX6_kept_4 : decode cX6_kept 4 = .ok (.iload_n 1, 1) := by decide +kernel
theorem dX6_kept_5 : decode cX6_kept 5 = .ok (.aload_n 0, 1) := by decide +kernel
theorem dX6_kept_6 : decode cX6_kept 6 = .ok (.getfield 45, 3) := by decide +kernel
theorem dX6_kept_9 : decode cX6_kept 9 = .ok (.invokevirtual 163, 3) := by decide +kernel
theorem dX6_kept_12 : decode cX6_kept 12 = .ok (.if_icmp .lt 5, 3) := by decide +kernel
theorem dX6_kept_15 : decode cX6_kept 15 = .ok (.iconst (-1), 1) := by decide +kernel
theorem dX6_kept_16 : decode cX6_kept 16 = .ok (.ireturn, 1) := by decide +kernel
theorem dX6_kept_17 : decode cX6_kept 17 = .ok (.aload_n 0, 1) := by decide +kernel
theorem dX6_kept_18 : decode cX6_kept 18 = .ok (.getfield 45, 3) := by decide +kernel
theorem dX6_kept_21 : decode cX6_kept 21 = .ok (.iload_n 1, 1) := by decide +kernel
theorem dX6_kept_22 : decode cX6_kept 22 = .ok (.iload_n 2, 1) := by decide +kernel
theorem dX6_kept_23 : decode cX6_kept 23 = .ok (.invokevirtual 242, 3) := by decide +kernel
theorem dX6_kept_26 : decode cX6_kept 26 = .ok (.ireturn, 1) := by decide +kernel
set_option maxRecDepth 20000 in
theorem ggX6_row_X6_takeTape : GoodIn wsX6_row wsX6_takeTape := goodIn_r _ [16, 17, 166, 167, 168, 169, 170, 171, 172, 173, 174, 175, 176, 177, 178, 179, 180, 181, 182] rfl (by decide +kernel)
set_option maxRecDepth 20000 in
theorem gX6_row_X6_takeTape : GoodIn wsX6_row (wsV RX6 103 RX6 yX6_takeTape wsX6_takeTape) := goodIn_app (goodIn_of _ (by decide +kernel)) ggX6_row_X6_takeTape
set_option maxRecDepth 20000 in
theorem ggX6_row_X6_namesWishes : GoodIn wsX6_row wsX6_namesWishes := goodIn_r _ [21, 4, 22, 23, 24, 15, 25, 26, 27, 166, 167, 168, 169, 170, 171, 172, 173, 174, 175, 176, 177, 178, 179, 180, 181, 182, 187, 188, 189, 190, 191, 192, 193, 194, 195, 196, 197, 198, 199, 200, 201, 202, 203, 204, 205, 206] rfl (by decide +kernel)
set_option maxRecDepth 20000 in
theorem gX6_row_X6_namesWishes : GoodIn wsX6_row (wsV RX6 245 RX6 yX6_namesWishes wsX6_namesWishes) := goodIn_app (goodIn_of _ (by decide +kernel)) ggX6_row_X6_namesWishes
set_option maxRecDepth 20000 in
theorem ggX6_row_X6_refuse : GoodIn wsX6_row wsX6_refuse := goodIn_r _ [31, 32, 166, 167, 168, 169, 170, 171, 172, 173, 174, 175, 176, 177, 178, 179, 180, 181, 182] rfl (by decide +kernel)
set_option maxRecDepth 20000 in
theorem gX6_row_X6_refuse : GoodIn wsX6_row (wsV RX6 95 RX6 yX6_refuse wsX6_refuse) := goodIn_app (goodIn_of _ (by decide +kernel)) ggX6_row_X6_refuse
set_option maxRecDepth 20000 in
theorem ggX6_row_X0_take : GoodIn wsX6_row wsX0_take := goodIn_r _ [37, 38, 39, 40, 41, 42, 43, 44, 36, 45, 183, 184, 185, 186] rfl (by decide +kernel)
set_option maxRecDepth 20000 in
theorem gX6_row_X0_take : GoodIn wsX6_row (wsV RX6 249 RX0 yX0_take wsX0_take) := goodIn_app (goodIn_of _ (by decide +kernel)) ggX6_row_X0_take
set_option maxRecDepth 20000 in
theorem ggX6_row_X6_goThrough : GoodIn wsX6_row wsX6_goThrough := goodIn_r _ [49, 1, 11, 26, 50, 51, 52, 53, 54, 55, 56, 57, 58, 59, 60, 6, 7, 8, 61, 62, 43, 44, 36, 45, 38, 39, 40, 41, 63, 64, 65, 66, 67, 68, 69, 70, 71, 72, 73, 74, 75, 76, 77, 78, 79, 80, 81, 82, 83, 84, 85, 86, 87, 88, 89, 90, 91, 92, 93, 94, 95, 96, 97, 98, 99, 100, 101, 102, 103, 104, 105, 106, 107, 108, 109, 110, 111, 112, 113, 114, 115, 116, 117, 118, 119, 120, 121, 122, 123, 124, 125, 126, 127, 128, 129, 130, 131, 132, 133, 134, 135, 136, 137, 138, 139, 140, 141, 142, 143, 144, 145, 146, 147, 148, 149, 150, 151, 152, 153, 154, 155, 156, 157, 158, 159, 160, 161, 162, 163, 164, 165, 166, 167, 168, 169, 170, 171, 172, 173, 174, 175, 176, 177, 178, 179, 180, 181, 182, 183, 184, 185, 186, 187, 188, 189, 190, 191, 192, 193, 194, 195, 196, 197, 198, 199, 200, 201, 202, 203, 204, 205, 206] rfl (by decide +kernel)
set_option maxRecDepth 20000 in
theorem gX6_row_X6_goThrough : GoodIn wsX6_row (wsV RX6 252 RX6 yX6_goThrough wsX6_goThrough) := goodIn_app (goodIn_of _ (by decide +kernel)) ggX6_row_X6_goThrough
theorem dX6_row_0 : decode cX6_row 0 = .ok (.aload_n 0, 1) := by decide +kernel
theorem dX6_row_1 : decode cX6_row 1 = .ok (.invokevirtual 103, 3) := by decide +kernel
theorem dX6_row_4 : decode cX6_row 4 = .ok (.istore_n 1, 1) := by decide +kernel
theorem dX6_row_5 : decode cX6_row 5 = .ok (.iload_n 1, 1) := by decide +kernel
theorem dX6_row_6 : decode cX6_row 6 = .ok (.bipush 40, 2) := by decide +kernel
theorem dX6_row_8 : decode cX6_row 8 = .ok (.if_icmp .gt 14, 3) := by decide +kernel
theorem dX6_row_11 : decode cX6_row 11 = .ok (.aload_n 0, 1) := by decide +kernel
theorem dX6_row_12 : decode cX6_row 12 = .ok (.iload_n 1, 1) := by decide +kernel
theorem dX6_row_13 : decode cX6_row 13 = .ok (.sipush 255, 3) := by decide +kernel
theorem dX6_row_16 : decode cX6_row 16 = .ok (.invokevirtual 245, 3) := by decide +kernel
theorem dX6_row_19 : decode cX6_row 19 = .ok (.ifCond .ne 9, 3) := by decide +kernel
theorem dX6_row_22 : decode cX6_row 22 = .ok (.aload_n 0, 1) := by decide +kernel
theorem dX6_row_23 : decode cX6_row 23 = .ok (.iconst 5, 1) := by decide +kernel
theorem dX6_row_24 : decode cX6_row 24 = .ok (.invokevirtual 95, 3) := by decide +kernel
theorem dX6_row_27 : decode cX6_row 27 = .ok (.ireturn, 1) := by decide +kernel
theorem dX6_row_28 : decode cX6_row 28 = .ok (.aload_n 0, 1) := by decide +kernel
theorem dX6_row_29 : decode cX6_row 29 = .ok (.getfield 39, 3) := by decide +kernel
theorem dX6_row_32 : decode cX6_row 32 = .ok (.aload_n 0, 1) := by decide +kernel
theorem dX6_row_33 : decode cX6_row 33 = .ok (.getfield 35, 3) := by decide +kernel
theorem dX6_row_36 : decode cX6_row 36 = .ok (.invokevirtual 249, 3) := by decide +kernel
theorem dX6_row_39 : decode cX6_row 39 = .ok (.iconst 0, 1) := by decide +kernel
theorem dX6_row_40 : decode cX6_row 40 = .ok (.istore_n 2, 1) := by decide +kernel
theorem dX6_row_41 : decode cX6_row 41 = .ok (.aload_n 0, 1) := by decide +kernel
theorem dX6_row_42 : decode cX6_row 42 = .ok (.getfield 35, 3) := by decide +kernel
theorem dX6_row_45 : decode cX6_row 45 = .ok (.getfield 140, 3) := by decide +kernel
theorem dX6_row_48 : decode cX6_row 48 = .ok (.istore_n 3, 1) := by decide +kernel
theorem dX6_row_49 : decode cX6_row 49 = .ok (.iconst 0, 1) := by decide +kernel
theorem dX6_row_50 : decode cX6_row 50 = .ok (.istore 4, 2) := by decide +kernel
theorem dX6_row_52 : decode cX6_row 52 = .ok (.iload 4, 2) := by decide +kernel
theorem dX6_row_54 : decode cX6_row 54 = .ok (.iload_n 1, 1) := by decide +kernel
theorem dX6_row_55 : decode cX6_row 55 = .ok (.if_icmp .ge 41, 3) := by decide +kernel
theorem dX6_row_58 : decode cX6_row 58 = .ok (.iload_n 2, 1) := by decide +kernel
theorem dX6_row_59 : decode cX6_row 59 = .ok (.ifCond .ne 37, 3) := by decide +kernel
theorem dX6_row_62 : decode cX6_row 62 = .ok (.aload_n 0, 1) := by decide +kernel
theorem dX6_row_63 : decode cX6_row 63 = .ok (.aload_n 0, 1) := by decide +kernel
theorem dX6_row_64 : decode cX6_row 64 = .ok (.getfield 9, 3) := by decide +kernel
theorem dX6_row_67 : decode cX6_row 67 = .ok (.iload 4, 2) := by decide +kernel
theorem dX6_row_69 : decode cX6_row 69 = .ok (.iaload, 1) := by decide +kernel
theorem dX6_row_70 : decode cX6_row 70 = .ok (.invokevirtual 252, 3) := by decide +kernel
theorem dX6_row_73 : decode cX6_row 73 = .ok (.istore_n 2, 1) := by decide +kernel
theorem dX6_row_74 : decode cX6_row 74 = .ok (.iload_n 2, 1) := by decide +kernel
theorem dX6_row_75 : decode cX6_row 75 = .ok (.ifCond .ne (-23), 3) := by decide +kernel
theorem dX6_row_78 : decode cX6_row 78 = .ok (.iload_n 3, 1) := by decide +kernel
theorem dX6_row_79 : decode cX6_row 79 = .ok (.aload_n 0, 1) := by decide +kernel
theorem dX6_row_80 : decode cX6_row 80 = .ok (.getfield 39, 3) := by decide +kernel
theorem dX6_row_83 : decode cX6_row 83 = .ok (.getfield 140, 3) := by decide +kernel
theorem dX6_row_86 : decode cX6_row 86 = .ok (.invokestatic 255, 3) := by decide +kernel
theorem dX6_row_89 : decode cX6_row 89 = .ok (.istore_n 3, 1) := by decide +kernel
theorem dX6_row_90 : decode cX6_row 90 = .ok (.iinc 4 1, 3) := by decide +kernel
theorem dX6_row_93 : decode cX6_row 93 = .ok (.goto (-41), 3) := by decide +kernel
theorem dX6_row_96 : decode cX6_row 96 = .ok (.aload_n 0, 1) := by decide +kernel
theorem dX6_row_97 : decode cX6_row 97 = .ok (.getfield 68, 3) := by decide +kernel
theorem dX6_row_100 : decode cX6_row 100 = .ok (.iconst 0, 1) := by decide +kernel
theorem dX6_row_101 : decode cX6_row 101 = .ok (.iload_n 2, 1) := by decide +kernel
theorem dX6_row_102 : decode cX6_row 102 = .ok (.iastore, 1) := by decide +kernel
theorem dX6_row_103 : decode cX6_row 103 = .ok (.aload_n 0, 1) := by decide +kernel
theorem dX6_row_104 : decode cX6_row 104 = .ok (.getfield 68, 3) := by decide +kernel
theorem dX6_row_107 : decode cX6_row 107 = .ok (.iconst 1, 1) := by decide +kernel
theorem dX6_row_108 : decode cX6_row 108 = .ok (.aload_n 0, 1) := by decide +kernel
theorem dX6_row_109 : decode cX6_row 109 = .ok (.getfield 39, 3) := by decide +kernel
theorem dX6_row_112 : decode cX6_row 112 = .ok (.getfield 136, 3) := by decide +kernel
theorem dX6_row_115 : decode cX6_row 115 = .ok (.iastore, 1) := by decide +kernel
theorem dX6_row_116 : decode cX6_row 116 = .ok (.aload_n 0, 1) := by decide +kernel
theorem dX6_row_117 : decode cX6_row 117 = .ok (.getfield 68, 3) := by decide +kernel
theorem dX6_row_120 : decode cX6_row 120 = .ok (.iconst 2, 1) := by decide +kernel
theorem dX6_row_121 : decode cX6_row 121 = .ok (.aload_n 0, 1) := by decide +kernel
theorem dX6_row_122 : decode cX6_row 122 = .ok (.getfield 39, 3) := by decide +kernel
theorem dX6_row_125 : decode cX6_row 125 = .ok (.getfield 140, 3) := by decide +kernel
theorem dX6_row_128 : decode cX6_row 128 = .ok (.iastore, 1) := by decide +kernel
theorem dX6_row_129 : decode cX6_row 129 = .ok (.aload_n 0, 1) := by decide +kernel
theorem dX6_row_130 : decode cX6_row 130 = .ok (.getfield 68, 3) := by decide +kernel
theorem dX6_row_133 : decode cX6_row 133 = .ok (.iconst 3, 1) := by decide +kernel
theorem dX6_row_134 : decode cX6_row 134 = .ok (.aload_n 0, 1) := by decide +kernel
theorem dX6_row_135 : decode cX6_row 135 = .ok (.getfield 39, 3) := by decide +kernel
theorem dX6_row_138 : decode cX6_row 138 = .ok (.getfield 146, 3) := by decide +kernel
theorem dX6_row_141 : decode cX6_row 141 = .ok (.iastore, 1) := by decide +kernel
theorem dX6_row_142 : decode cX6_row 142 = .ok (.aload_n 0, 1) := by decide +kernel
theorem dX6_row_143 : decode cX6_row 143 = .ok (.getfield 68, 3) := by decide +kernel
theorem dX6_row_146 : decode cX6_row 146 = .ok (.iconst 4, 1) := by decide +kernel
theorem dX6_row_147 : decode cX6_row 147 = .ok (.iload_n 3, 1) := by decide +kernel
theorem dX6_row_148 : decode cX6_row 148 = .ok (.iastore, 1) := by decide +kernel
theorem dX6_row_149 : decode cX6_row 149 = .ok (.iload 4, 2) := by decide +kernel
theorem dX6_row_151 : decode cX6_row 151 = .ok (.ireturn, 1) := by decide +kernel
theorem dX6_went_0 : decode cX6_went 0 = .ok (.iload_n 1, 1) := by decide +kernel
theorem dX6_went_1 : decode cX6_went 1 = .ok (.ifCond .lt 21, 3) := by decide +kernel
theorem dX6_went_4 : decode cX6_went 4 = .ok (.iload_n 1, 1) := by decide +kernel
theorem dX6_went_5 : decode cX6_went 5 = .ok (.aload_n 0, 1) := by decide +kernel
theorem dX6_went_6 : decode cX6_went 6 = .ok (.getfield 68, 3) := by decide +kernel
theorem dX6_went_9 : decode cX6_went 9 = .ok (.arraylength, 1) := by decide +kernel
theorem dX6_went_10 : decode cX6_went 10 = .ok (.if_icmp .ge 12, 3) := by decide +kernel
theorem dX6_went_13 : decode cX6_went 13 = .ok (.aload_n 0, 1) := by decide +kernel
theorem dX6_went_14 : decode cX6_went 14 = .ok (.getfield 68, 3) := by decide +kernel
theorem dX6_went_17 : decode cX6_went 17 = .ok (.iload_n 1, 1) := by decide +kernel
theorem dX6_went_18 : decode cX6_went 18 = .ok (.iaload, 1) := by decide +kernel
theorem dX6_went_19 : decode cX6_went 19 = .ok (.goto 4, 3) := by decide +kernel
theorem dX6_went_22 : decode cX6_went 22 = .ok (.iconst (-1), 1) := by decide +kernel
theorem dX6_went_23 : decode cX6_went 23 = .ok (.ireturn, 1) := by decide +kernel
set_option maxRecDepth 20000 in
theorem ggX6_ladder_X6_theRungs : GoodIn wsX6_ladder wsX6_theRungs := goodIn_r _ [7, 8, 9, 10, 11, 1, 12, 13, 14, 15, 16, 17, 18, 19, 20, 21, 22, 23, 24, 25, 26, 27, 28, 199, 200, 201, 202, 203, 204, 205, 206, 207, 208, 209, 210, 211, 212, 213, 214, 215, 216, 217, 218, 219, 220, 221, 222, 223, 224, 225] rfl (by decide +kernel)
set_option maxRecDepth 20000 in
theorem gX6_ladder_X6_theRungs : GoodIn wsX6_ladder (wsV RX6 260 RX6 yX6_theRungs wsX6_theRungs) := goodIn_app (goodIn_of _ (by decide +kernel)) ggX6_ladder_X6_theRungs
set_option maxRecDepth 20000 in
theorem ggX6_ladder_X4_climb : GoodIn wsX6_ladder wsX4_climb := goodIn_r _ [32, 33, 23, 25, 34, 35, 19, 36, 37, 38, 39, 40, 41, 22, 42, 43, 44, 45, 46, 47, 48, 49, 50, 51, 52, 53, 54, 55, 56, 57, 58, 59, 60, 61, 62, 63, 64, 11, 65, 24, 66, 67, 68, 69, 70, 71, 72, 73, 74, 75, 76, 77, 78, 79, 80, 81, 82, 83, 84, 85, 86, 87, 88, 89, 90, 91, 92, 93, 94, 95, 96, 97, 98, 99, 100, 101, 102, 103, 104, 105, 106, 107, 108, 109, 110, 111, 112, 113, 114, 115, 116, 117, 118, 119, 120, 121, 122, 123, 124, 125, 126, 127, 128, 129, 130, 131, 132, 133, 134, 135, 136, 137, 138, 139, 140, 141, 142, 143, 144, 145, 146, 147, 148, 149, 150, 151, 152, 153, 154, 155, 156, 157, 158, 159, 160, 161, 162, 163, 164, 165, 166, 167, 168, 169, 170, 171, 172, 173, 174, 175, 176, 177, 178, 179, 180, 181, 182, 183, 184, 185, 186, 187, 188, 189, 190, 191, 192, 193, 194, 216, 217, 218, 219, 220, 221, 226, 227, 228, 229, 230, 231, 232, 233, 234, 235, 236, 237, 238, 239, 240, 241, 242, 243, 244, 245, 222, 223, 224, 225] rfl (by decide +kernel)
set_option maxRecDepth 20000 in
theorem gX6_ladder_X4_climb : GoodIn wsX6_ladder (wsV RX6 264 RX4 yX4_climb wsX4_climb) := goodIn_app (goodIn_of _ (by decide +kernel)) ggX6_ladder_X4_climb
set_option maxRecDepth 20000 in
theorem ggX6_ladder_X4_count : GoodIn wsX6_ladder wsX4_count := goodIn_r _ [198, 35, 19, 36, 216, 217, 218, 219, 220, 221] rfl (by decide +kernel)
set_option maxRecDepth 20000 in
theorem gX6_ladder_X4_count : GoodIn wsX6_ladder (wsV RX6 270 RX4 yX4_count wsX4_count) := goodIn_app (goodIn_of _ (by decide +kernel)) ggX6_ladder_X4_count
theorem dX6_ladder_0 : decode cX6_ladder 0 = .ok (.iload_n 1, 1) := by decide +kernel
theorem dX6_ladder_1 : decode cX6_ladder 1 = .ok (.ifCond .lt 9, 3) := by decide +kernel
theorem dX6_ladder_4 : decode cX6_ladder 4 = .ok (.iload_n 1, 1) := by decide +kernel
theorem dX6_ladder_5 : decode cX6_ladder 5 = .ok (.bipush 8, 2) := by decide +kernel
theorem dX6_ladder_7 : decode cX6_ladder 7 = .ok (.if_icmp .le 5, 3) := by decide +kernel
theorem dX6_ladder_10 : decode cX6_ladder 10 = .ok (.iconst (-1), 1) := by decide +kernel
theorem dX6_ladder_11 : decode cX6_ladder 11 = .ok (.ireturn, 1) := by decide +kernel
theorem dX6_ladder_12 : decode cX6_ladder 12 = .ok (.aload_n 0, 1) := by decide +kernel
theorem dX6_ladder_13 : decode cX6_ladder 13 = .ok (.invokevirtual 260, 3) := by decide +kernel
theorem dX6_ladder_16 : decode cX6_ladder 16 = .ok (.aload_n 0, 1) := by decide +kernel
theorem dX6_ladder_17 : decode cX6_ladder 17 = .ok (.getfield 16, 3) := by decide +kernel
theorem dX6_ladder_20 : decode cX6_ladder 20 = .ok (.aload_n 0, 1) := by decide +kernel
theorem dX6_ladder_21 : decode cX6_ladder 21 = .ok (.getfield 35, 3) := by decide +kernel
theorem dX6_ladder_24 : decode cX6_ladder 24 = .ok (.invokevirtual 264, 3) := by decide +kernel
theorem dX6_ladder_27 : decode cX6_ladder 27 = .ok (.iload_n 1, 1) := by decide +kernel
theorem dX6_ladder_28 : decode cX6_ladder 28 = .ok (.invokevirtual 270, 3) := by decide +kernel
theorem dX6_ladder_31 : decode cX6_ladder 31 = .ok (.ireturn, 1) := by decide +kernel
set_option maxRecDepth 20000 in
theorem ggX6_fewest_X6_theRungs : GoodIn wsX6_fewest wsX6_theRungs := goodIn_r _ [7, 8, 9, 10, 11, 1, 12, 13, 14, 15, 16, 17, 18, 19, 20, 21, 22, 23, 24, 25, 26, 27, 28, 214, 215, 216, 217, 218, 219, 220, 221, 222, 223, 224, 225, 226, 227, 228, 229, 230, 231, 232, 233, 234, 235, 236, 237, 238, 239, 240] rfl (by decide +kernel)
set_option maxRecDepth 20000 in
theorem gX6_fewest_X6_theRungs : GoodIn wsX6_fewest (wsV RX6 260 RX6 yX6_theRungs wsX6_theRungs) := goodIn_app (goodIn_of _ (by decide +kernel)) ggX6_fewest_X6_theRungs
set_option maxRecDepth 20000 in
theorem ggX6_fewest_X4_climb : GoodIn wsX6_fewest wsX4_climb := goodIn_r _ [32, 33, 23, 25, 34, 35, 19, 36, 37, 38, 39, 40, 41, 22, 42, 43, 44, 45, 46, 47, 48, 49, 50, 51, 52, 53, 54, 55, 56, 57, 58, 59, 60, 61, 62, 63, 64, 11, 65, 24, 66, 67, 68, 69, 70, 71, 72, 73, 74, 75, 76, 77, 78, 79, 80, 81, 82, 83, 84, 85, 86, 87, 88, 89, 90, 91, 92, 93, 94, 95, 96, 97, 98, 99, 100, 101, 102, 103, 104, 105, 106, 107, 108, 109, 110, 111, 112, 113, 114, 115, 116, 117, 118, 119, 120, 121, 122, 123, 124, 125, 126, 127, 128, 129, 130, 131, 132, 133, 134, 135, 136, 137, 138, 139, 140, 141, 142, 143, 144, 145, 146, 147, 148, 149, 150, 151, 152, 153, 154, 155, 156, 157, 158, 159, 160, 161, 162, 163, 164, 165, 166, 167, 168, 169, 170, 171, 172, 173, 174, 175, 176, 177, 178, 179, 180, 181, 182, 183, 184, 185, 186, 187, 188, 189, 190, 191, 192, 193, 194, 231, 232, 233, 234, 235, 236, 241, 242, 243, 244, 245, 246, 247, 248, 249, 250, 251, 252, 253, 254, 255, 256, 257, 258, 259, 260, 237, 238, 239, 240] rfl (by decide +kernel)
set_option maxRecDepth 20000 in
theorem gX6_fewest_X4_climb : GoodIn wsX6_fewest (wsV RX6 264 RX4 yX4_climb wsX4_climb) := goodIn_app (goodIn_of _ (by decide +kernel)) ggX6_fewest_X4_climb
set_option maxRecDepth 20000 in
theorem ggX6_fewest_X4_fewestWith : GoodIn wsX6_fewest wsX4_fewestWith := goodIn_r _ [198, 35, 19, 36, 199, 200, 201, 11, 202, 82, 83, 84, 85, 231, 232, 233, 234, 235, 236] rfl (by decide +kernel)
set_option maxRecDepth 20000 in
theorem gX6_fewest_X4_fewestWith : GoodIn wsX6_fewest (wsV RX6 273 RX4 yX4_fewestWith wsX4_fewestWith) := goodIn_app (goodIn_of _ (by decide +kernel)) ggX6_fewest_X4_fewestWith
set_option maxRecDepth 20000 in
theorem ggX6_fewest_X4_wishesOf : GoodIn wsX6_fewest wsX4_wishesOf := goodIn_r _ [89, 35, 231, 232, 233, 234, 235, 236] rfl (by decide +kernel)
set_option maxRecDepth 20000 in
theorem gX6_fewest_X4_wishesOf : GoodIn wsX6_fewest (wsV RX6 276 RX4 yX4_wishesOf wsX4_wishesOf) := goodIn_app (goodIn_of _ (by decide +kernel)) ggX6_fewest_X4_wishesOf
set_option maxRecDepth 20000 in
theorem ggX6_fewest_X4_seaOf : GoodIn wsX6_fewest wsX4_seaOf := goodIn_r _ [85, 19, 231, 232, 233, 234, 235, 236] rfl (by decide +kernel)
set_option maxRecDepth 20000 in
theorem gX6_fewest_X4_seaOf : GoodIn wsX6_fewest (wsV RX6 279 RX4 yX4_seaOf wsX4_seaOf) := goodIn_app (goodIn_of _ (by decide +kernel)) ggX6_fewest_X4_seaOf
set_option maxRecDepth 20000 in
theorem ggX6_fewest_X4_setOf : GoodIn wsX6_fewest wsX4_setOf := goodIn_r _ [81, 35, 231, 232, 233, 234, 235, 236] rfl (by decide +kernel)
set_option maxRecDepth 20000 in
theorem gX6_fewest_X4_setOf : GoodIn wsX6_fewest (wsV RX6 282 RX4 yX4_setOf wsX4_setOf) := goodIn_app (goodIn_of _ (by decide +kernel)) ggX6_fewest_X4_setOf
set_option maxRecDepth 20000 in
theorem ggX6_fewest_X4_wishOnTheWay : GoodIn wsX6_fewest wsX4_wishOnTheWay := goodIn_r _ [209, 35, 86, 87, 88, 11, 89, 210, 211, 212, 213, 19, 231, 232, 233, 234, 235, 236] rfl (by decide +kernel)
set_option maxRecDepth 20000 in
theorem gX6_fewest_X4_wishOnTheWay : GoodIn wsX6_fewest (wsV RX6 285 RX4 yX4_wishOnTheWay wsX4_wishOnTheWay) := goodIn_app (goodIn_of _ (by decide +kernel)) ggX6_fewest_X4_wishOnTheWay
theorem dX6_fewest_0 : decode cX6_fewest 0 = .ok (.aload_n 0, 1) := by decide +kernel
theorem dX6_fewest_1 : decode cX6_fewest 1 = .ok (.invokevirtual 260, 3) := by decide +kernel
theorem dX6_fewest_4 : decode cX6_fewest 4 = .ok (.aload_n 0, 1) := by decide +kernel
theorem dX6_fewest_5 : decode cX6_fewest 5 = .ok (.getfield 16, 3) := by decide +kernel
theorem dX6_fewest_8 : decode cX6_fewest 8 = .ok (.aload_n 0, 1) := by decide +kernel
theorem dX6_fewest_9 : decode cX6_fewest 9 = .ok (.getfield 35, 3) := by decide +kernel
theorem dX6_fewest_12 : decode cX6_fewest 12 = .ok (.invokevirtual 264, 3) := by decide +kernel
theorem dX6_fewest_15 : decode cX6_fewest 15 = .ok (.astore_n 3, 1) := by decide +kernel
theorem dX6_fewest_16 : decode cX6_fewest 16 = .ok (.aload_n 3, 1) := by decide +kernel
theorem dX6_fewest_17 : decode cX6_fewest 17 = .ok (.iload_n 1, 1) := by decide +kernel
theorem dX6_fewest_18 : decode cX6_fewest 18 = .ok (.invokevirtual 273, 3) := by decide +kernel
theorem dX6_fewest_21 : decode cX6_fewest 21 = .ok (.istore 4, 2) := by decide +kernel
theorem dX6_fewest_23 : decode cX6_fewest 23 = .ok (.iload 4, 2) := by decide +kernel
theorem dX6_fewest_25 : decode cX6_fewest 25 = .ok (.ifCond .ge 5, 3) := by decide +kernel
theorem dX6_fewest_28 : decode cX6_fewest 28 = .ok (.iconst (-1), 1) := by decide +kernel
theorem dX6_fewest_29 : decode cX6_fewest 29 = .ok (.ireturn, 1) := by decide +kernel
theorem dX6_fewest_30 : decode cX6_fewest 30 = .ok (.iload_n 2, 1) := by decide +kernel
theorem dX6_fewest_31 : decode cX6_fewest 31 = .ok (.tableswitch 46 0 2 #[25, 32, 39], 25) := by decide +kernel
theorem dX6_fewest_56 : decode cX6_fewest 56 = .ok (.aload_n 3, 1) := by decide +kernel
theorem dX6_fewest_57 : decode cX6_fewest 57 = .ok (.iload 4, 2) := by decide +kernel
theorem dX6_fewest_59 : decode cX6_fewest 59 = .ok (.invokevirtual 276, 3) := by decide +kernel
theorem dX6_fewest_62 : decode cX6_fewest 62 = .ok (.ireturn, 1) := by decide +kernel
theorem dX6_fewest_63 : decode cX6_fewest 63 = .ok (.aload_n 3, 1) := by decide +kernel
theorem dX6_fewest_64 : decode cX6_fewest 64 = .ok (.iload 4, 2) := by decide +kernel
theorem dX6_fewest_66 : decode cX6_fewest 66 = .ok (.invokevirtual 279, 3) := by decide +kernel
theorem dX6_fewest_69 : decode cX6_fewest 69 = .ok (.ireturn, 1) := by decide +kernel
theorem dX6_fewest_70 : decode cX6_fewest 70 = .ok (.aload_n 3, 1) := by decide +kernel
theorem dX6_fewest_71 : decode cX6_fewest 71 = .ok (.iload 4, 2) := by decide +kernel
theorem dX6_fewest_73 : decode cX6_fewest 73 = .ok (.invokevirtual 282, 3) := by decide +kernel
theorem dX6_fewest_76 : decode cX6_fewest 76 = .ok (.ireturn, 1) := by decide +kernel
theorem dX6_fewest_77 : decode cX6_fewest 77 = .ok (.iload_n 2, 1) := by decide +kernel
theorem dX6_fewest_78 : decode cX6_fewest 78 = .ok (.bipush 10, 2) := by decide +kernel
theorem dX6_fewest_80 : decode cX6_fewest 80 = .ok (.if_icmp .lt 16, 3) := by decide +kernel
theorem dX6_fewest_83 : decode cX6_fewest 83 = .ok (.aload_n 3, 1) := by decide +kernel
theorem dX6_fewest_84 : decode cX6_fewest 84 = .ok (.iload 4, 2) := by decide +kernel
theorem dX6_fewest_86 : decode cX6_fewest 86 = .ok (.iload_n 2, 1) := by decide +kernel
theorem dX6_fewest_87 : decode cX6_fewest 87 = .ok (.bipush 10, 2) := by decide +kernel
theorem dX6_fewest_89 : decode cX6_fewest 89 = .ok (.isub, 1) := by decide +kernel
theorem dX6_fewest_90 : decode cX6_fewest 90 = .ok (.invokevirtual 285, 3) := by decide +kernel
theorem dX6_fewest_93 : decode cX6_fewest 93 = .ok (.goto 4, 3) := by decide +kernel
theorem dX6_fewest_96 : decode cX6_fewest 96 = .ok (.iconst (-1), 1) := by decide +kernel
theorem dX6_fewest_97 : decode cX6_fewest 97 = .ok (.ireturn, 1) := by decide +kernel
set_option maxRecDepth 20000 in
theorem ggX6_most_X6_theRungs : GoodIn wsX6_most wsX6_theRungs := goodIn_r _ [7, 8, 9, 10, 11, 1, 12, 13, 14, 15, 16, 17, 18, 19, 20, 21, 22, 23, 24, 25, 26, 27, 28, 208, 209, 210, 211, 212, 213, 214, 215, 216, 217, 218, 219, 220, 221, 222, 223, 224, 225, 226, 227, 228, 229, 230, 231, 232, 233, 234] rfl (by decide +kernel)
set_option maxRecDepth 20000 in
theorem gX6_most_X6_theRungs : GoodIn wsX6_most (wsV RX6 260 RX6 yX6_theRungs wsX6_theRungs) := goodIn_app (goodIn_of _ (by decide +kernel)) ggX6_most_X6_theRungs
set_option maxRecDepth 20000 in
theorem ggX6_most_X4_climb : GoodIn wsX6_most wsX4_climb := goodIn_r _ [32, 33, 23, 25, 34, 35, 19, 36, 37, 38, 39, 40, 41, 22, 42, 43, 44, 45, 46, 47, 48, 49, 50, 51, 52, 53, 54, 55, 56, 57, 58, 59, 60, 61, 62, 63, 64, 11, 65, 24, 66, 67, 68, 69, 70, 71, 72, 73, 74, 75, 76, 77, 78, 79, 80, 81, 82, 83, 84, 85, 86, 87, 88, 89, 90, 91, 92, 93, 94, 95, 96, 97, 98, 99, 100, 101, 102, 103, 104, 105, 106, 107, 108, 109, 110, 111, 112, 113, 114, 115, 116, 117, 118, 119, 120, 121, 122, 123, 124, 125, 126, 127, 128, 129, 130, 131, 132, 133, 134, 135, 136, 137, 138, 139, 140, 141, 142, 143, 144, 145, 146, 147, 148, 149, 150, 151, 152, 153, 154, 155, 156, 157, 158, 159, 160, 161, 162, 163, 164, 165, 166, 167, 168, 169, 170, 171, 172, 173, 174, 175, 176, 177, 178, 179, 180, 181, 182, 183, 184, 185, 186, 187, 188, 189, 190, 191, 192, 193, 194, 225, 226, 227, 228, 229, 230, 235, 236, 237, 238, 239, 240, 241, 242, 243, 244, 245, 246, 247, 248, 249, 250, 251, 252, 253, 254, 231, 232, 233, 234] rfl (by decide +kernel)
set_option maxRecDepth 20000 in
theorem gX6_most_X4_climb : GoodIn wsX6_most (wsV RX6 264 RX4 yX4_climb wsX4_climb) := goodIn_app (goodIn_of _ (by decide +kernel)) ggX6_most_X4_climb
set_option maxRecDepth 20000 in
theorem ggX6_most_X4_mostBy : GoodIn wsX6_most wsX4_mostBy := goodIn_r _ [198, 35, 19, 36, 25, 78, 79, 80, 11, 81, 199, 200, 201, 94, 202, 203, 126, 127, 128, 129, 125, 130, 86, 87, 88, 89, 82, 83, 84, 85, 225, 226, 227, 228, 229, 230, 235, 236, 237, 238, 239, 240, 241, 242, 243, 244, 245, 246, 247, 248, 249, 250, 251, 252, 253, 254] rfl (by decide +kernel)
set_option maxRecDepth 20000 in
theorem gX6_most_X4_mostBy : GoodIn wsX6_most (wsV RX6 288 RX4 yX4_mostBy wsX4_mostBy) := goodIn_app (goodIn_of _ (by decide +kernel)) ggX6_most_X4_mostBy
set_option maxRecDepth 20000 in
theorem ggX6_most_X4_setOf : GoodIn wsX6_most wsX4_setOf := goodIn_r _ [81, 35, 225, 226, 227, 228, 229, 230] rfl (by decide +kernel)
set_option maxRecDepth 20000 in
theorem gX6_most_X4_setOf : GoodIn wsX6_most (wsV RX6 282 RX4 yX4_setOf wsX4_setOf) := goodIn_app (goodIn_of _ (by decide +kernel)) ggX6_most_X4_setOf
set_option maxRecDepth 20000 in
theorem ggX6_most_X5_lastingWorthOf : GoodIn wsX6_most wsX5_lastingWorthOf := goodIn_r _ [202, 203, 126, 127, 128, 94, 129, 125, 130, 235, 236, 237, 238, 239, 240, 241, 242, 243, 244, 245, 246, 247, 248, 249, 250, 251, 252, 253, 254] rfl (by decide +kernel)
set_option maxRecDepth 20000 in
theorem gX6_most_X5_lastingWorthOf : GoodIn wsX6_most (wsV RX6 291 RX5 yX5_lastingWorthOf wsX5_lastingWorthOf) := goodIn_app (goodIn_of _ (by decide +kernel)) ggX6_most_X5_lastingWorthOf
set_option maxRecDepth 20000 in
theorem ggX6_most_X4_wishesOf : GoodIn wsX6_most wsX4_wishesOf := goodIn_r _ [89, 35, 225, 226, 227, 228, 229, 230] rfl (by decide +kernel)
set_option maxRecDepth 20000 in
theorem gX6_most_X4_wishesOf : GoodIn wsX6_most (wsV RX6 276 RX4 yX4_wishesOf wsX4_wishesOf) := goodIn_app (goodIn_of _ (by decide +kernel)) ggX6_most_X4_wishesOf
set_option maxRecDepth 20000 in
theorem ggX6_most_X4_seaOf : GoodIn wsX6_most wsX4_seaOf := goodIn_r _ [85, 19, 225, 226, 227, 228, 229, 230] rfl (by decide +kernel)
set_option maxRecDepth 20000 in
theorem gX6_most_X4_seaOf : GoodIn wsX6_most (wsV RX6 279 RX4 yX4_seaOf wsX4_seaOf) := goodIn_app (goodIn_of _ (by decide +kernel)) ggX6_most_X4_seaOf
theorem dX6_most_0 : decode cX6_most 0 = .ok (.iload_n 1, 1) := by decide +kernel
theorem dX6_most_1 : decode cX6_most 1 = .ok (.ifCond .lt 9, 3) := by decide +kernel
theorem dX6_most_4 : decode cX6_most 4 = .ok (.iload_n 1, 1) := by decide +kernel
theorem dX6_most_5 : decode cX6_most 5 = .ok (.bipush 8, 2) := by decide +kernel
theorem dX6_most_7 : decode cX6_most 7 = .ok (.if_icmp .le 5, 3) := by decide +kernel
theorem dX6_most_10 : decode cX6_most 10 = .ok (.iconst (-1), 1) := by decide +kernel
theorem dX6_most_11 : decode cX6_most 11 = .ok (.ireturn, 1) := by decide +kernel
theorem dX6_most_12 : decode cX6_most 12 = .ok (.aload_n 0, 1) := by decide +kernel
theorem dX6_most_13 : decode cX6_most 13 = .ok (.invokevirtual 260, 3) := by decide +kernel
theorem dX6_most_16 : decode cX6_most 16 = .ok (.aload_n 0, 1) := by decide +kernel
theorem dX6_most_17 : decode cX6_most 17 = .ok (.getfield 16, 3) := by decide +kernel
theorem dX6_most_20 : decode cX6_most 20 = .ok (.aload_n 0, 1) := by decide +kernel
theorem dX6_most_21 : decode cX6_most 21 = .ok (.getfield 35, 3) := by decide +kernel
theorem dX6_most_24 : decode cX6_most 24 = .ok (.invokevirtual 264, 3) := by decide +kernel
theorem dX6_most_27 : decode cX6_most 27 = .ok (.astore_n 3, 1) := by decide +kernel
theorem dX6_most_28 : decode cX6_most 28 = .ok (.aload_n 3, 1) := by decide +kernel
theorem dX6_most_29 : decode cX6_most 29 = .ok (.iload_n 1, 1) := by decide +kernel
theorem dX6_most_30 : decode cX6_most 30 = .ok (.invokevirtual 288, 3) := by decide +kernel
theorem dX6_most_33 : decode cX6_most 33 = .ok (.istore 4, 2) := by decide +kernel
theorem dX6_most_35 : decode cX6_most 35 = .ok (.iload 4, 2) := by decide +kernel
theorem dX6_most_37 : decode cX6_most 37 = .ok (.ifCond .ge 5, 3) := by decide +kernel
theorem dX6_most_40 : decode cX6_most 40 = .ok (.iconst (-1), 1) := by decide +kernel
theorem dX6_most_41 : decode cX6_most 41 = .ok (.ireturn, 1) := by decide +kernel
theorem dX6_most_42 : decode cX6_most 42 = .ok (.iload_n 2, 1) := by decide +kernel
theorem dX6_most_43 : decode cX6_most 43 = .ok (.tableswitch 64 0 3 #[29, 43, 50, 57], 29) := by decide +kernel
theorem dX6_most_72 : decode cX6_most 72 = .ok (.aload_n 0, 1) := by decide +kernel
theorem dX6_most_73 : decode cX6_most 73 = .ok (.getfield 16, 3) := by decide +kernel
theorem dX6_most_76 : decode cX6_most 76 = .ok (.aload_n 3, 1) := by decide +kernel
theorem dX6_most_77 : decode cX6_most 77 = .ok (.iload 4, 2) := by decide +kernel
theorem dX6_most_79 : decode cX6_most 79 = .ok (.invokevirtual 282, 3) := by decide +kernel
theorem dX6_most_82 : decode cX6_most 82 = .ok (.invokevirtual 291, 3) := by decide +kernel
theorem dX6_most_85 : decode cX6_most 85 = .ok (.ireturn, 1) := by decide +kernel
theorem dX6_most_86 : decode cX6_most 86 = .ok (.aload_n 3, 1) := by decide +kernel
theorem dX6_most_87 : decode cX6_most 87 = .ok (.iload 4, 2) := by decide +kernel
theorem dX6_most_89 : decode cX6_most 89 = .ok (.invokevirtual 276, 3) := by decide +kernel
theorem dX6_most_92 : decode cX6_most 92 = .ok (.ireturn, 1) := by decide +kernel
theorem dX6_most_93 : decode cX6_most 93 = .ok (.aload_n 3, 1) := by decide +kernel
theorem dX6_most_94 : decode cX6_most 94 = .ok (.iload 4, 2) := by decide +kernel
theorem dX6_most_96 : decode cX6_most 96 = .ok (.invokevirtual 279, 3) := by decide +kernel
theorem dX6_most_99 : decode cX6_most 99 = .ok (.ireturn, 1) := by decide +kernel
theorem dX6_most_100 : decode cX6_most 100 = .ok (.aload_n 3, 1) := by decide +kernel
theorem dX6_most_101 : decode cX6_most 101 = .ok (.iload 4, 2) := by decide +kernel
theorem dX6_most_103 : decode cX6_most 103 = .ok (.invokevirtual 282, 3) := by decide +kernel
theorem dX6_most_106 : decode cX6_most 106 = .ok (.ireturn, 1) := by decide +kernel
theorem dX6_most_107 : decode cX6_most 107 = .ok (.iconst (-1), 1) := by decide +kernel
theorem dX6_most_108 : decode cX6_most 108 = .ok (.ireturn, 1) := by decide +kernel
set_option maxRecDepth 20000 in
theorem ggX6_ends_X6_theRungs : GoodIn wsX6_ends wsX6_theRungs := goodIn_r _ [7, 8, 9, 10, 11, 1, 12, 13, 14, 15, 16, 17, 18, 19, 20, 21, 22, 23, 24, 25, 26, 27, 28, 211, 212, 213, 214, 215, 216, 217, 218, 219, 220, 221, 222, 223, 224, 225, 226, 227, 228, 229, 230, 231, 232, 233, 234, 235, 236, 237] rfl (by decide +kernel)
set_option maxRecDepth 20000 in
theorem gX6_ends_X6_theRungs : GoodIn wsX6_ends (wsV RX6 260 RX6 yX6_theRungs wsX6_theRungs) := goodIn_app (goodIn_of _ (by decide +kernel)) ggX6_ends_X6_theRungs
set_option maxRecDepth 20000 in
theorem ggX6_ends_X4_climb : GoodIn wsX6_ends wsX4_climb := goodIn_r _ [32, 33, 23, 25, 34, 35, 19, 36, 37, 38, 39, 40, 41, 22, 42, 43, 44, 45, 46, 47, 48, 49, 50, 51, 52, 53, 54, 55, 56, 57, 58, 59, 60, 61, 62, 63, 64, 11, 65, 24, 66, 67, 68, 69, 70, 71, 72, 73, 74, 75, 76, 77, 78, 79, 80, 81, 82, 83, 84, 85, 86, 87, 88, 89, 90, 91, 92, 93, 94, 95, 96, 97, 98, 99, 100, 101, 102, 103, 104, 105, 106, 107, 108, 109, 110, 111, 112, 113, 114, 115, 116, 117, 118, 119, 120, 121, 122, 123, 124, 125, 126, 127, 128, 129, 130, 131, 132, 133, 134, 135, 136, 137, 138, 139, 140, 141, 142, 143, 144, 145, 146, 147, 148, 149, 150, 151, 152, 153, 154, 155, 156, 157, 158, 159, 160, 161, 162, 163, 164, 165, 166, 167, 168, 169, 170, 171, 172, 173, 174, 175, 176, 177, 178, 179, 180, 181, 182, 183, 184, 185, 186, 187, 188, 189, 190, 191, 192, 193, 194, 228, 229, 230, 231, 232, 233, 238, 239, 240, 241, 242, 243, 244, 245, 246, 247, 248, 249, 250, 251, 252, 253, 254, 255, 256, 257, 234, 235, 236, 237] rfl (by decide +kernel)
set_option maxRecDepth 20000 in
theorem gX6_ends_X4_climb : GoodIn wsX6_ends (wsV RX6 264 RX4 yX4_climb wsX4_climb) := goodIn_app (goodIn_of _ (by decide +kernel)) ggX6_ends_X4_climb
set_option maxRecDepth 20000 in
theorem ggX6_ends_X4_fewestContent : GoodIn wsX6_ends wsX4_fewestContent := goodIn_r _ [198, 35, 19, 36, 199, 200, 201, 11, 202, 25, 24, 72, 73, 74, 75, 23, 76, 77, 78, 79, 80, 81, 82, 83, 84, 85, 86, 87, 88, 89, 90, 52, 53, 22, 54, 43, 44, 45, 46, 203, 99, 100, 94, 101, 102, 103, 104, 105, 106, 107, 108, 109, 110, 111, 112, 113, 69, 70, 71, 114, 115, 116, 117, 118, 119, 120, 121, 97, 122, 123, 124, 125, 126, 127, 128, 129, 130, 131, 132, 133, 134, 135, 136, 137, 138, 139, 140, 141, 96, 142, 143, 144, 145, 146, 147, 148, 149, 150, 151, 152, 153, 154, 155, 156, 157, 158, 159, 160, 161, 162, 163, 164, 165, 166, 167, 168, 204, 205, 206, 207, 228, 229, 230, 231, 232, 233, 234, 235, 236, 237, 238, 239, 240, 241, 242, 243, 244, 245, 246, 247, 248, 249, 250, 251, 252, 253, 254, 255, 256, 257] rfl (by decide +kernel)
set_option maxRecDepth 20000 in
theorem gX6_ends_X4_fewestContent : GoodIn wsX6_ends (wsV RX6 294 RX4 yX4_fewestContent wsX4_fewestContent) := goodIn_app (goodIn_of _ (by decide +kernel)) ggX6_ends_X4_fewestContent
set_option maxRecDepth 20000 in
theorem ggX6_ends_X4_wishesOf : GoodIn wsX6_ends wsX4_wishesOf := goodIn_r _ [89, 35, 228, 229, 230, 231, 232, 233] rfl (by decide +kernel)
set_option maxRecDepth 20000 in
theorem gX6_ends_X4_wishesOf : GoodIn wsX6_ends (wsV RX6 276 RX4 yX4_wishesOf wsX4_wishesOf) := goodIn_app (goodIn_of _ (by decide +kernel)) ggX6_ends_X4_wishesOf
set_option maxRecDepth 20000 in
theorem ggX6_ends_X4_seaOf : GoodIn wsX6_ends wsX4_seaOf := goodIn_r _ [85, 19, 228, 229, 230, 231, 232, 233] rfl (by decide +kernel)
set_option maxRecDepth 20000 in
theorem gX6_ends_X4_seaOf : GoodIn wsX6_ends (wsV RX6 279 RX4 yX4_seaOf wsX4_seaOf) := goodIn_app (goodIn_of _ (by decide +kernel)) ggX6_ends_X4_seaOf
set_option maxRecDepth 20000 in
theorem ggX6_ends_X4_setOf : GoodIn wsX6_ends wsX4_setOf := goodIn_r _ [81, 35, 228, 229, 230, 231, 232, 233] rfl (by decide +kernel)
set_option maxRecDepth 20000 in
theorem gX6_ends_X4_setOf : GoodIn wsX6_ends (wsV RX6 282 RX4 yX4_setOf wsX4_setOf) := goodIn_app (goodIn_of _ (by decide +kernel)) ggX6_ends_X4_setOf
theorem dX6_ends_0 : decode cX6_ends 0 = .ok (.aload_n 0, 1) := by decide +kernel
theorem dX6_ends_1 : decode cX6_ends 1 = .ok (.invokevirtual 260, 3) := by decide +kernel
theorem dX6_ends_4 : decode cX6_ends 4 = .ok (.aload_n 0, 1) := by decide +kernel
theorem dX6_ends_5 : decode cX6_ends 5 = .ok (.getfield 16, 3) := by decide +kernel
theorem dX6_ends_8 : decode cX6_ends 8 = .ok (.aload_n 0, 1) := by decide +kernel
theorem dX6_ends_9 : decode cX6_ends 9 = .ok (.getfield 35, 3) := by decide +kernel
theorem dX6_ends_12 : decode cX6_ends 12 = .ok (.invokevirtual 264, 3) := by decide +kernel
theorem dX6_ends_15 : decode cX6_ends 15 = .ok (.astore_n 2, 1) := by decide +kernel
theorem dX6_ends_16 : decode cX6_ends 16 = .ok (.aload_n 2, 1) := by decide +kernel
theorem dX6_ends_17 : decode cX6_ends 17 = .ok (.invokevirtual 294, 3) := by decide +kernel
theorem dX6_ends_20 : decode cX6_ends 20 = .ok (.istore_n 3, 1) := by decide +kernel
theorem dX6_ends_21 : decode cX6_ends 21 = .ok (.iload_n 3, 1) := by decide +kernel
theorem dX6_ends_22 : decode cX6_ends 22 = .ok (.ifCond .ge 5, 3) := by decide +kernel
theorem dX6_ends_25 : decode cX6_ends 25 = .ok (.iconst (-1), 1) := by decide +kernel
theorem dX6_ends_26 : decode cX6_ends 26 = .ok (.ireturn, 1) := by decide +kernel
theorem dX6_ends_27 : decode cX6_ends 27 = .ok (.iload_n 1, 1) := by decide +kernel
theorem dX6_ends_28 : decode cX6_ends 28 = .ok (.tableswitch 46 0 2 #[28, 34, 40], 28) := by decide +kernel
theorem dX6_ends_56 : decode cX6_ends 56 = .ok (.aload_n 2, 1) := by decide +kernel
theorem dX6_ends_57 : decode cX6_ends 57 = .ok (.iload_n 3, 1) := by decide +kernel
theorem dX6_ends_58 : decode cX6_ends 58 = .ok (.invokevirtual 276, 3) := by decide +kernel
theorem dX6_ends_61 : decode cX6_ends 61 = .ok (.ireturn, 1) := by decide +kernel
theorem dX6_ends_62 : decode cX6_ends 62 = .ok (.aload_n 2, 1) := by decide +kernel
theorem dX6_ends_63 : decode cX6_ends 63 = .ok (.iload_n 3, 1) := by decide +kernel
theorem dX6_ends_64 : decode cX6_ends 64 = .ok (.invokevirtual 279, 3) := by decide +kernel
theorem dX6_ends_67 : decode cX6_ends 67 = .ok (.ireturn, 1) := by decide +kernel
