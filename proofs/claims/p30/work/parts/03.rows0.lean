theorem dX0_init_0 : decode cX0_init 0 = .ok (.aload_n 0, 1) := by decide +kernel
theorem dX0_init_1 : decode cX0_init 1 = .ok (.invokespecial 1, 3) := by decide +kernel
theorem dX0_init_4 : decode cX0_init 4 = .ok (.return_, 1) := by decide +kernel
theorem dX0_put_0 : decode cX0_put 0 = .ok (.aload_n 0, 1) := by decide +kernel
theorem dX0_put_1 : decode cX0_put 1 = .ok (.iload_n 1, 1) := by decide +kernel
theorem dX0_put_2 : decode cX0_put 2 = .ok (.putfield 7, 3) := by decide +kernel
theorem dX0_put_5 : decode cX0_put 5 = .ok (.aload_n 0, 1) := by decide +kernel
theorem dX0_put_6 : decode cX0_put 6 = .ok (.iload_n 2, 1) := by decide +kernel
theorem dX0_put_7 : decode cX0_put 7 = .ok (.putfield 13, 3) := by decide +kernel
theorem dX0_put_10 : decode cX0_put 10 = .ok (.aload_n 0, 1) := by decide +kernel
theorem dX0_put_11 : decode cX0_put 11 = .ok (.iload_n 3, 1) := by decide +kernel
theorem dX0_put_12 : decode cX0_put 12 = .ok (.putfield 16, 3) := by decide +kernel
theorem dX0_put_15 : decode cX0_put 15 = .ok (.aload_n 0, 1) := by decide +kernel
theorem dX0_put_16 : decode cX0_put 16 = .ok (.iload 4, 2) := by decide +kernel
theorem dX0_put_18 : decode cX0_put 18 = .ok (.putfield 19, 3) := by decide +kernel
theorem dX0_put_21 : decode cX0_put 21 = .ok (.return_, 1) := by decide +kernel
set_option maxRecDepth 20000 in
theorem ggX0_take_X0_put : GoodIn wsX0_take wsX0_put := goodIn_r _ [9, 1, 2, 3, 4, 10, 11, 12, 13] rfl (by decide +kernel)
set_option maxRecDepth 20000 in
theorem gX0_take_X0_put : GoodIn wsX0_take (wsV RX0 22 RX0 yX0_put wsX0_put) := goodIn_app (goodIn_of _ (by decide +kernel)) ggX0_take_X0_put
theorem dX0_take_0 : decode cX0_take 0 = .ok (.aload_n 0, 1) := by decide +kernel
theorem dX0_take_1 : decode cX0_take 1 = .ok (.aload_n 1, 1) := by decide +kernel
theorem dX0_take_2 : decode cX0_take 2 = .ok (.getfield 7, 3) := by decide +kernel
theorem dX0_take_5 : decode cX0_take 5 = .ok (.aload_n 1, 1) := by decide +kernel
theorem dX0_take_6 : decode cX0_take 6 = .ok (.getfield 13, 3) := by decide +kernel
theorem dX0_take_9 : decode cX0_take 9 = .ok (.aload_n 1, 1) := by decide +kernel
theorem dX0_take_10 : decode cX0_take 10 = .ok (.getfield 16, 3) := by decide +kernel
theorem dX0_take_13 : decode cX0_take 13 = .ok (.aload_n 1, 1) := by decide +kernel
theorem dX0_take_14 : decode cX0_take 14 = .ok (.getfield 19, 3) := by decide +kernel
theorem dX0_take_17 : decode cX0_take 17 = .ok (.invokevirtual 22, 3) := by decide +kernel
theorem dX0_take_20 : decode cX0_take 20 = .ok (.return_, 1) := by decide +kernel
theorem dX0_isLike_0 : decode cX0_isLike 0 = .ok (.aload_n 0, 1) := by decide +kernel
theorem dX0_isLike_1 : decode cX0_isLike 1 = .ok (.getfield 7, 3) := by decide +kernel
theorem dX0_isLike_4 : decode cX0_isLike 4 = .ok (.aload_n 1, 1) := by decide +kernel
theorem dX0_isLike_5 : decode cX0_isLike 5 = .ok (.getfield 7, 3) := by decide +kernel
theorem dX0_isLike_8 : decode cX0_isLike 8 = .ok (.if_icmp .ne 40, 3) := by decide +kernel
theorem dX0_isLike_11 : decode cX0_isLike 11 = .ok (.aload_n 0, 1) := by decide +kernel
theorem dX0_isLike_12 : decode cX0_isLike 12 = .ok (.getfield 13, 3) := by decide +kernel
theorem dX0_isLike_15 : decode cX0_isLike 15 = .ok (.aload_n 1, 1) := by decide +kernel
theorem dX0_isLike_16 : decode cX0_isLike 16 = .ok (.getfield 13, 3) := by decide +kernel
theorem dX0_isLike_19 : decode cX0_isLike 19 = .ok (.if_icmp .ne 29, 3) := by decide +kernel
theorem dX0_isLike_22 : decode cX0_isLike 22 = .ok (.aload_n 0, 1) := by decide +kernel
theorem dX0_isLike_23 : decode cX0_isLike 23 = .ok (.getfield 16, 3) := by decide +kernel
theorem dX0_isLike_26 : decode cX0_isLike 26 = .ok (.aload_n 1, 1) := by decide +kernel
theorem dX0_isLike_27 : decode cX0_isLike 27 = .ok (.getfield 16, 3) := by decide +kernel
theorem dX0_isLike_30 : decode cX0_isLike 30 = .ok (.if_icmp .ne 18, 3) := by decide +kernel
theorem dX0_isLike_33 : decode cX0_isLike 33 = .ok (.aload_n 0, 1) := by decide +kernel
theorem dX0_isLike_34 : decode cX0_isLike 34 = .ok (.getfield 19, 3) := by decide +kernel
theorem dX0_isLike_37 : decode cX0_isLike 37 = .ok (.aload_n 1, 1) := by decide +kernel
theorem dX0_isLike_38 : decode cX0_isLike 38 = .ok (.getfield 19, 3) := by decide +kernel
theorem dX0_isLike_41 : decode cX0_isLike 41 = .ok (.if_icmp .ne 7, 3) := by decide +kernel
theorem dX0_isLike_44 : decode cX0_isLike 44 = .ok (.iconst 1, 1) := by decide +kernel
theorem dX0_isLike_45 : decode cX0_isLike 45 = .ok (.goto 4, 3) := by decide +kernel
theorem dX0_isLike_48 : decode cX0_isLike 48 = .ok (.iconst 0, 1) := by decide +kernel
theorem dX0_isLike_49 : decode cX0_isLike 49 = .ok (.ireturn, 1) := by decide +kernel
set_option maxRecDepth 20000 in
theorem ggX1_init_X0_init : GoodIn wsX1_init wsX0_init := goodIn_r _ [12, 13, 2, 3] rfl (by decide +kernel)
set_option maxRecDepth 20000 in
theorem gX1_init_X0_init_n24 : GoodIn wsX1_init (wsX0_init) := ggX1_init_X0_init
theorem dX1_init_0 : decode cX1_init 0 = .ok (.aload_n 0, 1) := by decide +kernel
theorem dX1_init_1 : decode cX1_init 1 = .ok (.invokespecial 3, 3) := by decide +kernel
theorem dX1_init_4 : decode cX1_init 4 = .ok (.aload_n 0, 1) := by decide +kernel
theorem dX1_init_5 : decode cX1_init 5 = .ok (.sipush 2450, 3) := by decide +kernel
theorem dX1_init_8 : decode cX1_init 8 = .ok (.newarray .int, 2) := by decide +kernel
theorem dX1_init_10 : decode cX1_init 10 = .ok (.putfield 11, 3) := by decide +kernel
theorem dX1_init_13 : decode cX1_init 13 = .ok (.aload_n 0, 1) := by decide +kernel
theorem dX1_init_14 : decode cX1_init 14 = .ok (.bipush 20, 2) := by decide +kernel
theorem dX1_init_16 : decode cX1_init 16 = .ok (.anewarray 15, 3) := by decide +kernel
theorem dX1_init_19 : decode cX1_init 19 = .ok (.putfield 17, 3) := by decide +kernel
theorem dX1_init_22 : decode cX1_init 22 = .ok (.aload_n 0, 1) := by decide +kernel
theorem dX1_init_23 : decode cX1_init 23 = .ok (.bipush 20, 2) := by decide +kernel
theorem dX1_init_25 : decode cX1_init 25 = .ok (.newarray .int, 2) := by decide +kernel
theorem dX1_init_27 : decode cX1_init 27 = .ok (.putfield 21, 3) := by decide +kernel
theorem dX1_init_30 : decode cX1_init 30 = .ok (.iconst 0, 1) := by decide +kernel
theorem dX1_init_31 : decode cX1_init 31 = .ok (.istore_n 1, 1) := by decide +kernel
theorem dX1_init_32 : decode cX1_init 32 = .ok (.iload_n 1, 1) := by decide +kernel
theorem dX1_init_33 : decode cX1_init 33 = .ok (.aload_n 0, 1) := by decide +kernel
theorem dX1_init_34 : decode cX1_init 34 = .ok (.getfield 17, 3) := by decide +kernel
theorem dX1_init_37 : decode cX1_init 37 = .ok (.arraylength, 1) := by decide +kernel
theorem dX1_init_38 : decode cX1_init 38 = .ok (.if_icmp .ge 22, 3) := by decide +kernel
theorem dX1_init_41 : decode cX1_init 41 = .ok (.aload_n 0, 1) := by decide +kernel
theorem dX1_init_42 : decode cX1_init 42 = .ok (.getfield 17, 3) := by decide +kernel
theorem dX1_init_45 : decode cX1_init 45 = .ok (.iload_n 1, 1) := by decide +kernel
theorem dX1_init_46 : decode cX1_init 46 = .ok (.new 15, 3) := by decide +kernel
theorem dX1_init_49 : decode cX1_init 49 = .ok (.dup, 1) := by decide +kernel
theorem dX1_init_50 : decode cX1_init 50 = .ok (.invokespecial 24, 3) := by decide +kernel
theorem dX1_init_53 : decode cX1_init 53 = .ok (.aastore, 1) := by decide +kernel
theorem dX1_init_54 : decode cX1_init 54 = .ok (.iinc 1 1, 3) := by decide +kernel
theorem dX1_init_57 : decode cX1_init 57 = .ok (.goto (-25), 3) := by decide +kernel
theorem dX1_init_60 : decode cX1_init 60 = .ok (.return_, 1) := by decide +kernel
theorem dX1_forget_0 : decode cX1_forget 0 = .ok (.aload_n 0, 1) := by decide +kernel
theorem dX1_forget_1 : decode cX1_forget 1 = .ok (.iconst 0, 1) := by decide +kernel
theorem dX1_forget_2 : decode cX1_forget 2 = .ok (.putfield 25, 3) := by decide +kernel
theorem dX1_forget_5 : decode cX1_forget 5 = .ok (.aload_n 0, 1) := by decide +kernel
theorem dX1_forget_6 : decode cX1_forget 6 = .ok (.iconst 0, 1) := by decide +kernel
theorem dX1_forget_7 : decode cX1_forget 7 = .ok (.putfield 29, 3) := by decide +kernel
theorem dX1_forget_10 : decode cX1_forget 10 = .ok (.aload_n 0, 1) := by decide +kernel
theorem dX1_forget_11 : decode cX1_forget 11 = .ok (.iconst 0, 1) := by decide +kernel
theorem dX1_forget_12 : decode cX1_forget 12 = .ok (.putfield 32, 3) := by decide +kernel
theorem dX1_forget_15 : decode cX1_forget 15 = .ok (.return_, 1) := by decide +kernel
set_option maxRecDepth 20000 in
theorem ggX1_remember_X0_take : GoodIn wsX1_remember wsX0_take := goodIn_r _ [14, 15, 16, 17, 18, 19, 20, 21, 13, 22, 29, 30, 31, 32] rfl (by decide +kernel)
set_option maxRecDepth 20000 in
theorem gX1_remember_X0_take : GoodIn wsX1_remember (wsV RX1 35 RX0 yX0_take wsX0_take) := goodIn_app (goodIn_of _ (by decide +kernel)) ggX1_remember_X0_take
theorem dX1_remember_0 : decode cX1_remember 0 = .ok (.aload_n 0, 1) := by decide +kernel
theorem dX1_remember_1 : decode cX1_remember 1 = .ok (.getfield 29, 3) := by decide +kernel
theorem dX1_remember_4 : decode cX1_remember 4 = .ok (.bipush 20, 2) := by decide +kernel
theorem dX1_remember_6 : decode cX1_remember 6 = .ok (.irem, 1) := by decide +kernel
theorem dX1_remember_7 : decode cX1_remember 7 = .ok (.istore_n 2, 1) := by decide +kernel
theorem dX1_remember_8 : decode cX1_remember 8 = .ok (.aload_n 0, 1) := by decide +kernel
theorem dX1_remember_9 : decode cX1_remember 9 = .ok (.getfield 17, 3) := by decide +kernel
theorem dX1_remember_12 : decode cX1_remember 12 = .ok (.iload_n 2, 1) := by decide +kernel
theorem dX1_remember_13 : decode cX1_remember 13 = .ok (.aaload, 1) := by decide +kernel
theorem dX1_remember_14 : decode cX1_remember 14 = .ok (.aload_n 1, 1) := by decide +kernel
theorem dX1_remember_15 : decode cX1_remember 15 = .ok (.invokevirtual 35, 3) := by decide +kernel
theorem dX1_remember_18 : decode cX1_remember 18 = .ok (.aload_n 0, 1) := by decide +kernel
theorem dX1_remember_19 : decode cX1_remember 19 = .ok (.getfield 21, 3) := by decide +kernel
theorem dX1_remember_22 : decode cX1_remember 22 = .ok (.iload_n 2, 1) := by decide +kernel
theorem dX1_remember_23 : decode cX1_remember 23 = .ok (.aload_n 0, 1) := by decide +kernel
theorem dX1_remember_24 : decode cX1_remember 24 = .ok (.getfield 25, 3) := by decide +kernel
theorem dX1_remember_27 : decode cX1_remember 27 = .ok (.iastore, 1) := by decide +kernel
theorem dX1_remember_28 : decode cX1_remember 28 = .ok (.aload_n 0, 1) := by decide +kernel
theorem dX1_remember_29 : decode cX1_remember 29 = .ok (.dup, 1) := by decide +kernel
theorem dX1_remember_30 : decode cX1_remember 30 = .ok (.getfield 29, 3) := by decide +kernel
theorem dX1_remember_33 : decode cX1_remember 33 = .ok (.iconst 1, 1) := by decide +kernel
theorem dX1_remember_34 : decode cX1_remember 34 = .ok (.iadd, 1) := by decide +kernel
theorem dX1_remember_35 : decode cX1_remember 35 = .ok (.putfield 29, 3) := by decide +kernel
theorem dX1_remember_38 : decode cX1_remember 38 = .ok (.aload_n 0, 1) := by decide +kernel
theorem dX1_remember_39 : decode cX1_remember 39 = .ok (.bipush 20, 2) := by decide +kernel
theorem dX1_remember_41 : decode cX1_remember 41 = .ok (.aload_n 0, 1) := by decide +kernel
theorem dX1_remember_42 : decode cX1_remember 42 = .ok (.getfield 32, 3) := by decide +kernel
theorem dX1_remember_45 : decode cX1_remember 45 = .ok (.iconst 1, 1) := by decide +kernel
theorem dX1_remember_46 : decode cX1_remember 46 = .ok (.iadd, 1) := by decide +kernel
theorem dX1_remember_47 : decode cX1_remember 47 = .ok (.invokestatic 39, 3) := by decide +kernel
theorem dX1_remember_50 : decode cX1_remember 50 = .ok (.putfield 32, 3) := by decide +kernel
theorem dX1_remember_53 : decode cX1_remember 53 = .ok (.return_, 1) := by decide +kernel
set_option maxRecDepth 20000 in
theorem ggX1_bringBack_X0_take : GoodIn wsX1_bringBack wsX0_take := goodIn_r _ [10, 11, 12, 13, 14, 15, 16, 17, 9, 18, 25, 26, 27, 28] rfl (by decide +kernel)
set_option maxRecDepth 20000 in
theorem gX1_bringBack_X0_take : GoodIn wsX1_bringBack (wsV RX1 35 RX0 yX0_take wsX0_take) := goodIn_app (goodIn_of _ (by decide +kernel)) ggX1_bringBack_X0_take
theorem dX1_bringBack_0 : decode cX1_bringBack 0 = .ok (.aload_n 0, 1) := by decide +kernel
theorem dX1_bringBack_1 : decode cX1_bringBack 1 = .ok (.getfield 32, 3) := by decide +kernel
theorem dX1_bringBack_4 : decode cX1_bringBack 4 = .ok (.iconst 1, 1) := by decide +kernel
theorem dX1_bringBack_5 : decode cX1_bringBack 5 = .ok (.if_icmp .lt 11, 3) := by decide +kernel
theorem dX1_bringBack_8 : decode cX1_bringBack 8 = .ok (.aload_n 0, 1) := by decide +kernel
theorem dX1_bringBack_9 : decode cX1_bringBack 9 = .ok (.getfield 29, 3) := by decide +kernel
theorem dX1_bringBack_12 : decode cX1_bringBack 12 = .ok (.iconst 1, 1) := by decide +kernel
theorem dX1_bringBack_13 : decode cX1_bringBack 13 = .ok (.if_icmp .ge 4, 3) := by decide +kernel
theorem dX1_bringBack_16 : decode cX1_bringBack 16 = .ok (.return_, 1) := by decide +kernel
theorem dX1_bringBack_17 : decode cX1_bringBack 17 = .ok (.aload_n 0, 1) := by decide +kernel
theorem dX1_bringBack_18 : decode cX1_bringBack 18 = .ok (.dup, 1) := by decide +kernel
theorem dX1_bringBack_19 : decode cX1_bringBack 19 = .ok (.getfield 29, 3) := by decide +kernel
theorem dX1_bringBack_22 : decode cX1_bringBack 22 = .ok (.iconst 1, 1) := by decide +kernel
theorem dX1_bringBack_23 : decode cX1_bringBack 23 = .ok (.isub, 1) := by decide +kernel
theorem dX1_bringBack_24 : decode cX1_bringBack 24 = .ok (.putfield 29, 3) := by decide +kernel
theorem dX1_bringBack_27 : decode cX1_bringBack 27 = .ok (.aload_n 0, 1) := by decide +kernel
theorem dX1_bringBack_28 : decode cX1_bringBack 28 = .ok (.dup, 1) := by decide +kernel
theorem dX1_bringBack_29 : decode cX1_bringBack 29 = .ok (.getfield 32, 3) := by decide +kernel
theorem dX1_bringBack_32 : decode cX1_bringBack 32 = .ok (.iconst 1, 1) := by decide +kernel
theorem dX1_bringBack_33 : decode cX1_bringBack 33 = .ok (.isub, 1) := by decide +kernel
theorem dX1_bringBack_34 : decode cX1_bringBack 34 = .ok (.putfield 32, 3) := by decide +kernel
theorem dX1_bringBack_37 : decode cX1_bringBack 37 = .ok (.aload_n 0, 1) := by decide +kernel
theorem dX1_bringBack_38 : decode cX1_bringBack 38 = .ok (.getfield 29, 3) := by decide +kernel
theorem dX1_bringBack_41 : decode cX1_bringBack 41 = .ok (.bipush 20, 2) := by decide +kernel
theorem dX1_bringBack_43 : decode cX1_bringBack 43 = .ok (.irem, 1) := by decide +kernel
theorem dX1_bringBack_44 : decode cX1_bringBack 44 = .ok (.istore_n 2, 1) := by decide +kernel
theorem dX1_bringBack_45 : decode cX1_bringBack 45 = .ok (.aload_n 1, 1) := by decide +kernel
theorem dX1_bringBack_46 : decode cX1_bringBack 46 = .ok (.aload_n 0, 1) := by decide +kernel
theorem dX1_bringBack_47 : decode cX1_bringBack 47 = .ok (.getfield 17, 3) := by decide +kernel
theorem dX1_bringBack_50 : decode cX1_bringBack 50 = .ok (.iload_n 2, 1) := by decide +kernel
theorem dX1_bringBack_51 : decode cX1_bringBack 51 = .ok (.aaload, 1) := by decide +kernel
theorem dX1_bringBack_52 : decode cX1_bringBack 52 = .ok (.invokevirtual 35, 3) := by decide +kernel
theorem dX1_bringBack_55 : decode cX1_bringBack 55 = .ok (.aload_n 0, 1) := by decide +kernel
theorem dX1_bringBack_56 : decode cX1_bringBack 56 = .ok (.aload_n 0, 1) := by decide +kernel
theorem dX1_bringBack_57 : decode cX1_bringBack 57 = .ok (.getfield 21, 3) := by decide +kernel
theorem dX1_bringBack_60 : decode cX1_bringBack 60 = .ok (.iload_n 2, 1) := by decide +kernel
theorem dX1_bringBack_61 : decode cX1_bringBack 61 = .ok (.iaload, 1) := by decide +kernel
theorem dX1_bringBack_62 : decode cX1_bringBack 62 = .ok (.putfield 25, 3) := by decide +kernel
theorem dX1_bringBack_65 : decode cX1_bringBack 65 = .ok (.return_, 1) := by decide +kernel
theorem dX1_keep_0 : decode cX1_keep 0 = .ok (.aload_n 0, 1) := by decide +kernel
theorem dX1_keep_1 : decode cX1_keep 1 = .ok (.getfield 11, 3) := by decide +kernel
theorem dX1_keep_4 : decode cX1_keep 4 = .ok (.aload_n 0, 1) := by decide +kernel
theorem dX1_keep_5 : decode cX1_keep 5 = .ok (.getfield 25, 3) := by decide +kernel
theorem dX1_keep_8 : decode cX1_keep 8 = .ok (.aload_n 0, 1) := by decide +kernel
theorem dX1_keep_9 : decode cX1_keep 9 = .ok (.getfield 11, 3) := by decide +kernel
theorem dX1_keep_12 : decode cX1_keep 12 = .ok (.arraylength, 1) := by decide +kernel
theorem dX1_keep_13 : decode cX1_keep 13 = .ok (.irem, 1) := by decide +kernel
theorem dX1_keep_14 : decode cX1_keep 14 = .ok (.iload_n 1, 1) := by decide +kernel
theorem dX1_keep_15 : decode cX1_keep 15 = .ok (.iconst 4, 1) := by decide +kernel
theorem dX1_keep_16 : decode cX1_keep 16 = .ok (.ishl, 1) := by decide +kernel
theorem dX1_keep_17 : decode cX1_keep 17 = .ok (.iload_n 2, 1) := by decide +kernel
theorem dX1_keep_18 : decode cX1_keep 18 = .ok (.ior, 1) := by decide +kernel
theorem dX1_keep_19 : decode cX1_keep 19 = .ok (.bipush 10, 2) := by decide +kernel
theorem dX1_keep_21 : decode cX1_keep 21 = .ok (.ishl, 1) := by decide +kernel
theorem dX1_keep_22 : decode cX1_keep 22 = .ok (.iload_n 3, 1) := by decide +kernel
theorem dX1_keep_23 : decode cX1_keep 23 = .ok (.ior, 1) := by decide +kernel
theorem dX1_keep_24 : decode cX1_keep 24 = .ok (.iconst 1, 1) := by decide +kernel
theorem dX1_keep_25 : decode cX1_keep 25 = .ok (.ishl, 1) := by decide +kernel
theorem dX1_keep_26 : decode cX1_keep 26 = .ok (.iload 4, 2) := by decide +kernel
theorem dX1_keep_28 : decode cX1_keep 28 = .ok (.ifCond .eq 7, 3) := by decide +kernel
theorem dX1_keep_31 : decode cX1_keep 31 = .ok (.iconst 1, 1) := by decide +kernel
theorem dX1_keep_32 : decode cX1_keep 32 = .ok (.goto 4, 3) := by decide +kernel
theorem dX1_keep_35 : decode cX1_keep 35 = .ok (.iconst 0, 1) := by decide +kernel
theorem dX1_keep_36 : decode cX1_keep 36 = .ok (.ior, 1) := by decide +kernel
theorem dX1_keep_37 : decode cX1_keep 37 = .ok (.iastore, 1) := by decide +kernel
theorem dX1_keep_38 : decode cX1_keep 38 = .ok (.aload_n 0, 1) := by decide +kernel
theorem dX1_keep_39 : decode cX1_keep 39 = .ok (.dup, 1) := by decide +kernel
theorem dX1_keep_40 : decode cX1_keep 40 = .ok (.getfield 25, 3) := by decide +kernel
theorem dX1_keep_43 : decode cX1_keep 43 = .ok (.iconst 1, 1) := by decide +kernel
theorem dX1_keep_44 : decode cX1_keep 44 = .ok (.iadd, 1) := by decide +kernel
theorem dX1_keep_45 : decode cX1_keep 45 = .ok (.putfield 25, 3) := by decide +kernel
theorem dX1_keep_48 : decode cX1_keep 48 = .ok (.return_, 1) := by decide +kernel
theorem dX1_told_0 : decode cX1_told 0 = .ok (.bipush 50, 2) := by decide +kernel
theorem dX1_told_2 : decode cX1_told 2 = .ok (.aload_n 0, 1) := by decide +kernel
theorem dX1_told_3 : decode cX1_told 3 = .ok (.getfield 25, 3) := by decide +kernel
theorem dX1_told_6 : decode cX1_told 6 = .ok (.invokestatic 39, 3) := by decide +kernel
theorem dX1_told_9 : decode cX1_told 9 = .ok (.ireturn, 1) := by decide +kernel
set_option maxRecDepth 20000 in
theorem ggX1_entry_X1_told : GoodIn wsX1_entry wsX1_told := goodIn_r _ [7, 1, 8, 9, 10, 11, 12, 13, 14, 15, 16, 17] rfl (by decide +kernel)
set_option maxRecDepth 20000 in
theorem gX1_entry_X1_told : GoodIn wsX1_entry (wsV RX1 45 RX1 yX1_told wsX1_told) := goodIn_app (goodIn_of _ (by decide +kernel)) ggX1_entry_X1_told
theorem dX1_entry_0 : decode cX1_entry 0 = .ok (.aload_n 0, 1) := by decide +kernel
theorem dX1_entry_1 : decode cX1_entry 1 = .ok (.getfield 25, 3) := by decide +kernel
theorem dX1_entry_4 : decode cX1_entry 4 = .ok (.aload_n 0, 1) := by decide +kernel
theorem dX1_entry_5 : decode cX1_entry 5 = .ok (.invokevirtual 45, 3) := by decide +kernel
theorem dX1_entry_8 : decode cX1_entry 8 = .ok (.isub, 1) := by decide +kernel
theorem dX1_entry_9 : decode cX1_entry 9 = .ok (.iload_n 1, 1) := by decide +kernel
theorem dX1_entry_10 : decode cX1_entry 10 = .ok (.iadd, 1) := by decide +kernel
theorem dX1_entry_11 : decode cX1_entry 11 = .ok (.istore_n 2, 1) := by decide +kernel
theorem dX1_entry_12 : decode cX1_entry 12 = .ok (.iload_n 2, 1) := by decide +kernel
theorem dX1_entry_13 : decode cX1_entry 13 = .ok (.ifCond .lt 18, 3) := by decide +kernel
theorem dX1_entry_16 : decode cX1_entry 16 = .ok (.aload_n 0, 1) := by decide +kernel
theorem dX1_entry_17 : decode cX1_entry 17 = .ok (.getfield 11, 3) := by decide +kernel
theorem dX1_entry_20 : decode cX1_entry 20 = .ok (.iload_n 2, 1) := by decide +kernel
theorem dX1_entry_21 : decode cX1_entry 21 = .ok (.aload_n 0, 1) := by decide +kernel
theorem dX1_entry_22 : decode cX1_entry 22 = .ok (.getfield 11, 3) := by decide +kernel
theorem dX1_entry_25 : decode cX1_entry 25 = .ok (.arraylength, 1) := by decide +kernel
theorem dX1_entry_26 : decode cX1_entry 26 = .ok (.irem, 1) := by decide +kernel
theorem dX1_entry_27 : decode cX1_entry 27 = .ok (.iaload, 1) := by decide +kernel
theorem dX1_entry_28 : decode cX1_entry 28 = .ok (.goto 4, 3) := by decide +kernel
theorem dX1_entry_31 : decode cX1_entry 31 = .ok (.iconst 0, 1) := by decide +kernel
theorem dX1_entry_32 : decode cX1_entry 32 = .ok (.ireturn, 1) := by decide +kernel
set_option maxRecDepth 20000 in
theorem ggX1_tell_X1_entry : GoodIn wsX1_tell wsX1_entry := goodIn_r _ [5, 6, 7, 8, 9, 10, 4, 11, 12, 13, 14, 15, 16, 17, 18, 19, 20, 21] rfl (by decide +kernel)
set_option maxRecDepth 20000 in
theorem gX1_tell_X1_entry : GoodIn wsX1_tell (wsV RX1 49 RX1 yX1_entry wsX1_entry) := goodIn_app (goodIn_of _ (by decide +kernel)) ggX1_tell_X1_entry
theorem dX1_tell_0 : decode cX1_tell 0 = .ok (.aload_n 0, 1) := by decide +kernel
theorem dX1_tell_1 : decode cX1_tell 1 = .ok (.iload_n 1, 1) := by decide +kernel
theorem dX1_tell_2 : decode cX1_tell 2 = .ok (.invokevirtual 49, 3) := by decide +kernel
theorem dX1_tell_5 : decode cX1_tell 5 = .ok (.istore_n 3, 1) := by decide +kernel
theorem dX1_tell_6 : decode cX1_tell 6 = .ok (.iload_n 2, 1) := by decide +kernel
theorem dX1_tell_7 : decode cX1_tell 7 = .ok (.tableswitch 54 0 3 #[29, 34, 42, 50], 29) := by decide +kernel
theorem dX1_tell_36 : decode cX1_tell 36 = .ok (.iload_n 3, 1) := by decide +kernel
theorem dX1_tell_37 : decode cX1_tell 37 = .ok (.bipush 15, 2) := by decide +kernel
theorem dX1_tell_39 : decode cX1_tell 39 = .ok (.ishr, 1) := by decide +kernel
theorem dX1_tell_40 : decode cX1_tell 40 = .ok (.ireturn, 1) := by decide +kernel
theorem dX1_tell_41 : decode cX1_tell 41 = .ok (.iload_n 3, 1) := by decide +kernel
theorem dX1_tell_42 : decode cX1_tell 42 = .ok (.bipush 11, 2) := by decide +kernel
theorem dX1_tell_44 : decode cX1_tell 44 = .ok (.ishr, 1) := by decide +kernel
theorem dX1_tell_45 : decode cX1_tell 45 = .ok (.bipush 15, 2) := by decide +kernel
theorem dX1_tell_47 : decode cX1_tell 47 = .ok (.iand, 1) := by decide +kernel
theorem dX1_tell_48 : decode cX1_tell 48 = .ok (.ireturn, 1) := by decide +kernel
theorem dX1_tell_49 : decode cX1_tell 49 = .ok (.iload_n 3, 1) := by decide +kernel
theorem dX1_tell_50 : decode cX1_tell 50 = .ok (.iconst 1, 1) := by decide +kernel
theorem dX1_tell_51 : decode cX1_tell 51 = .ok (.ishr, 1) := by decide +kernel
theorem dX1_tell_52 : decode cX1_tell 52 = .ok (.sipush 1023, 3) := by decide +kernel
theorem dX1_tell_55 : decode cX1_tell 55 = .ok (.iand, 1) := by decide +kernel
theorem dX1_tell_56 : decode cX1_tell 56 = .ok (.ireturn, 1) := by decide +kernel
theorem dX1_tell_57 : decode cX1_tell 57 = .ok (.iload_n 3, 1) := by decide +kernel
theorem dX1_tell_58 : decode cX1_tell 58 = .ok (.iconst 1, 1) := by decide +kernel
theorem dX1_tell_59 : decode cX1_tell 59 = .ok (.iand, 1) := by decide +kernel
theorem dX1_tell_60 : decode cX1_tell 60 = .ok (.ireturn, 1) := by decide +kernel
theorem dX1_tell_61 : decode cX1_tell 61 = .ok (.iconst (-1), 1) := by decide +kernel
theorem dX1_tell_62 : decode cX1_tell 62 = .ok (.ireturn, 1) := by decide +kernel
set_option maxRecDepth 20000 in
theorem ggX1_timesTold_X1_told : GoodIn wsX1_timesTold wsX1_told := goodIn_r _ [5, 6, 7, 8, 9, 10, 20, 21, 22, 23, 24, 25] rfl (by decide +kernel)
set_option maxRecDepth 20000 in
theorem gX1_timesTold_X1_told : GoodIn wsX1_timesTold (wsV RX1 45 RX1 yX1_told wsX1_told) := goodIn_app (goodIn_of _ (by decide +kernel)) ggX1_timesTold_X1_told
set_option maxRecDepth 20000 in
theorem ggX1_timesTold_X1_tell : GoodIn wsX1_timesTold wsX1_tell := goodIn_r _ [14, 15, 16, 17, 4, 18, 6, 19, 1, 2, 3, 5, 7, 8, 9, 10, 20, 21, 22, 23, 24, 25] rfl (by decide +kernel)
set_option maxRecDepth 20000 in
theorem gX1_timesTold_X1_tell : GoodIn wsX1_timesTold (wsV RX1 53 RX1 yX1_tell wsX1_tell) := goodIn_app (goodIn_of _ (by decide +kernel)) ggX1_timesTold_X1_tell
theorem dX1_timesTold_0 : decode cX1_timesTold 0 = .ok (.iconst 0, 1) := by decide +kernel
theorem dX1_timesTold_1 : decode cX1_timesTold 1 = .ok (.istore_n 2, 1) := by decide +kernel
theorem dX1_timesTold_2 : decode cX1_timesTold 2 = .ok (.aload_n 0, 1) := by decide +kernel
theorem dX1_timesTold_3 : decode cX1_timesTold 3 = .ok (.invokevirtual 45, 3) := by decide +kernel
theorem dX1_timesTold_6 : decode cX1_timesTold 6 = .ok (.istore_n 3, 1) := by decide +kernel
theorem dX1_timesTold_7 : decode cX1_timesTold 7 = .ok (.iconst 0, 1) := by decide +kernel
theorem dX1_timesTold_8 : decode cX1_timesTold 8 = .ok (.istore 4, 2) := by decide +kernel
theorem dX1_timesTold_10 : decode cX1_timesTold 10 = .ok (.iload 4, 2) := by decide +kernel
theorem dX1_timesTold_12 : decode cX1_timesTold 12 = .ok (.iload_n 3, 1) := by decide +kernel
theorem dX1_timesTold_13 : decode cX1_timesTold 13 = .ok (.if_icmp .ge 23, 3) := by decide +kernel
theorem dX1_timesTold_16 : decode cX1_timesTold 16 = .ok (.aload_n 0, 1) := by decide +kernel
theorem dX1_timesTold_17 : decode cX1_timesTold 17 = .ok (.iload 4, 2) := by decide +kernel
theorem dX1_timesTold_19 : decode cX1_timesTold 19 = .ok (.iconst 1, 1) := by decide +kernel
theorem dX1_timesTold_20 : decode cX1_timesTold 20 = .ok (.invokevirtual 53, 3) := by decide +kernel
theorem dX1_timesTold_23 : decode cX1_timesTold 23 = .ok (.iload_n 1, 1) := by decide +kernel
theorem dX1_timesTold_24 : decode cX1_timesTold 24 = .ok (.if_icmp .ne 6, 3) := by decide +kernel
theorem dX1_timesTold_27 : decode cX1_timesTold 27 = .ok (.iinc 2 1, 3) := by decide +kernel
theorem dX1_timesTold_30 : decode cX1_timesTold 30 = .ok (.iinc 4 1, 3) := by decide +kernel
theorem dX1_timesTold_33 : decode cX1_timesTold 33 = .ok (.goto (-23), 3) := by decide +kernel
theorem dX1_timesTold_36 : decode cX1_timesTold 36 = .ok (.iload_n 2, 1) := by decide +kernel
theorem dX1_timesTold_37 : decode cX1_timesTold 37 = .ok (.ireturn, 1) := by decide +kernel
set_option maxRecDepth 20000 in
theorem ggX2_init_J0_length_8abf5 : GoodIn wsX2_init wsJ0_length_8abf5 := goodIn_r _ [15, 16, 17, 18, 19, 14, 20, 21, 22] rfl (by decide +kernel)
set_option maxRecDepth 20000 in
theorem gX2_init_J0_length_8abf5 : GoodIn wsX2_init (wsV RX2 32 RJ0 yJ0_length_8abf5 wsJ0_length_8abf5) := goodIn_app (goodIn_of _ (by decide +kernel)) ggX2_init_J0_length_8abf5
set_option maxRecDepth 20000 in
theorem ggX2_init_J0_charAt_5068e : GoodIn wsX2_init wsJ0_charAt_5068e := goodIn_r _ [26, 16, 27, 28, 29, 14, 30, 21, 22, 31, 32, 33, 34, 35, 36, 37, 38, 39, 40, 41, 42, 43, 44, 45, 46, 47, 48, 49, 50, 51, 52, 53, 54, 55, 56, 57, 58, 59] rfl (by decide +kernel)
set_option maxRecDepth 20000 in
theorem gX2_init_J0_charAt_5068e : GoodIn wsX2_init (wsV RX2 38 RJ0 yJ0_charAt_5068e wsJ0_charAt_5068e) := goodIn_app (goodIn_of _ (by decide +kernel)) ggX2_init_J0_charAt_5068e
theorem dX2_init_0 : decode cX2_init 0 = .ok (.aload_n 0, 1) := by decide +kernel
theorem dX2_init_1 : decode cX2_init 1 = .ok (.invokespecial 3, 3) := by decide +kernel
theorem dX2_init_4 : decode cX2_init 4 = .ok (.aload_n 0, 1) := by decide +kernel
theorem dX2_init_5 : decode cX2_init 5 = .ok (.bipush 25, 2) := by decide +kernel
theorem dX2_init_7 : decode cX2_init 7 = .ok (.newarray .long, 2) := by decide +kernel
theorem dX2_init_9 : decode cX2_init 9 = .ok (.putfield 9, 3) := by decide +kernel
theorem dX2_init_12 : decode cX2_init 12 = .ok (.aload_n 0, 1) := by decide +kernel
theorem dX2_init_13 : decode cX2_init 13 = .ok (.sipush 256, 3) := by decide +kernel
theorem dX2_init_16 : decode cX2_init 16 = .ok (.putfield 15, 3) := by decide +kernel
theorem dX2_init_19 : decode cX2_init 19 = .ok (.aload_n 0, 1) := by decide +kernel
theorem dX2_init_20 : decode cX2_init 20 = .ok (.iconst (-1), 1) := by decide +kernel
theorem dX2_init_21 : decode cX2_init 21 = .ok (.putfield 19, 3) := by decide +kernel
theorem dX2_init_24 : decode cX2_init 24 = .ok (.aload_n 0, 1) := by decide +kernel
theorem dX2_init_25 : decode cX2_init 25 = .ok (.aload_n 1, 1) := by decide +kernel
theorem dX2_init_26 : decode cX2_init 26 = .ok (.putfield 22, 3) := by decide +kernel
theorem dX2_init_29 : decode cX2_init 29 = .ok (.aload_n 0, 1) := by decide +kernel
theorem dX2_init_30 : decode cX2_init 30 = .ok (.aload_n 2, 1) := by decide +kernel
theorem dX2_init_31 : decode cX2_init 31 = .ok (.putfield 26, 3) := by decide +kernel
theorem dX2_init_34 : decode cX2_init 34 = .ok (.iconst 0, 1) := by decide +kernel
theorem dX2_init_35 : decode cX2_init 35 = .ok (.istore_n 3, 1) := by decide +kernel
theorem dX2_init_36 : decode cX2_init 36 = .ok (.lconst 1, 1) := by decide +kernel
theorem dX2_init_37 : decode cX2_init 37 = .ok (.lstore 4, 2) := by decide +kernel
theorem dX2_init_39 : decode cX2_init 39 = .ok (.iconst 0, 1) := by decide +kernel
theorem dX2_init_40 : decode cX2_init 40 = .ok (.istore 6, 2) := by decide +kernel
theorem dX2_init_42 : decode cX2_init 42 = .ok (.iload 6, 2) := by decide +kernel
theorem dX2_init_44 : decode cX2_init 44 = .ok (.ldc 30, 2) := by decide +kernel
theorem dX2_init_46 : decode cX2_init 46 = .ok (.invokevirtual 32, 3) := by decide +kernel
theorem dX2_init_49 : decode cX2_init 49 = .ok (.if_icmp .ge 69, 3) := by decide +kernel
theorem dX2_init_52 : decode cX2_init 52 = .ok (.iload_n 3, 1) := by decide +kernel
theorem dX2_init_53 : decode cX2_init 53 = .ok (.bipush 25, 2) := by decide +kernel
theorem dX2_init_55 : decode cX2_init 55 = .ok (.if_icmp .ge 63, 3) := by decide +kernel
theorem dX2_init_58 : decode cX2_init 58 = .ok (.ldc 30, 2) := by decide +kernel
theorem dX2_init_60 : decode cX2_init 60 = .ok (.iload 6, 2) := by decide +kernel
theorem dX2_init_62 : decode cX2_init 62 = .ok (.invokevirtual 38, 3) := by decide +kernel
theorem dX2_init_65 : decode cX2_init 65 = .ok (.bipush 32, 2) := by decide +kernel
theorem dX2_init_67 : decode cX2_init 67 = .ok (.if_icmp .ne 12, 3) := by decide +kernel
theorem dX2_init_70 : decode cX2_init 70 = .ok (.iinc 3 1, 3) := by decide +kernel
theorem dX2_init_73 : decode cX2_init 73 = .ok (.lconst 1, 1) := by decide +kernel
theorem dX2_init_74 : decode cX2_init 74 = .ok (.lstore 4, 2) := by decide +kernel
theorem dX2_init_76 : decode cX2_init 76 = .ok (.goto 36, 3) := by decide +kernel
theorem dX2_init_79 : decode cX2_init 79 = .ok (.aload_n 0, 1) := by decide +kernel
theorem dX2_init_80 : decode cX2_init 80 = .ok (.getfield 9, 3) := by decide +kernel
theorem dX2_init_83 : decode cX2_init 83 = .ok (.iload_n 3, 1) := by decide +kernel
theorem dX2_init_84 : decode cX2_init 84 = .ok (.dup2, 1) := by decide +kernel
theorem dX2_init_85 : decode cX2_init 85 = .ok (.laload, 1) := by decide +kernel
theorem dX2_init_86 : decode cX2_init 86 = .ok (.ldc 30, 2) := by decide +kernel
theorem dX2_init_88 : decode cX2_init 88 = .ok (.iload 6, 2) := by decide +kernel
theorem dX2_init_90 : decode cX2_init 90 = .ok (.invokevirtual 38, 3) := by decide +kernel
theorem dX2_init_93 : decode cX2_init 93 = .ok (.bipush 97, 2) := by decide +kernel
theorem dX2_init_95 : decode cX2_init 95 = .ok (.isub, 1) := by decide +kernel
theorem dX2_init_96 : decode cX2_init 96 = .ok (.iconst 1, 1) := by decide +kernel
theorem dX2_init_97 : decode cX2_init 97 = .ok (.iadd, 1) := by decide +kernel
theorem dX2_init_98 : decode cX2_init 98 = .ok (.i2l, 1) := by decide +kernel
theorem dX2_init_99 : decode cX2_init 99 = .ok (.lload 4, 2) := by decide +kernel
theorem dX2_init_101 : decode cX2_init 101 = .ok (.lmul, 1) := by decide +kernel
theorem dX2_init_102 : decode cX2_init 102 = .ok (.ladd, 1) := by decide +kernel
theorem dX2_init_103 : decode cX2_init 103 = .ok (.lastore, 1) := by decide +kernel
theorem dX2_init_104 : decode cX2_init 104 = .ok (.lload 4, 2) := by decide +kernel
theorem dX2_init_106 : decode cX2_init 106 = .ok (.ldc2_w 42, 3) := by decide +kernel
theorem dX2_init_109 : decode cX2_init 109 = .ok (.lmul, 1) := by decide +kernel
theorem dX2_init_110 : decode cX2_init 110 = .ok (.lstore 4, 2) := by decide +kernel
theorem dX2_init_112 : decode cX2_init 112 = .ok (.iinc 6 1, 3) := by decide +kernel
theorem dX2_init_115 : decode cX2_init 115 = .ok (.goto (-73), 3) := by decide +kernel
theorem dX2_init_118 : decode cX2_init 118 = .ok (.return_, 1) := by decide +kernel
set_option maxRecDepth 20000 in
theorem ggX2_begin_X5_clear : GoodIn wsX2_begin wsX5_clear := goodIn_r _ [17, 18, 19, 20, 21, 22, 23, 24, 25, 26, 27, 28, 29, 30, 31, 77, 78, 79, 80, 81, 82, 83, 84, 85, 86, 87, 88, 89, 90, 91, 92, 93, 94, 95, 96] rfl (by decide +kernel)
set_option maxRecDepth 20000 in
theorem gX2_begin_X5_clear : GoodIn wsX2_begin (wsV RX2 44 RX5 yX5_clear wsX5_clear) := goodIn_app (goodIn_of _ (by decide +kernel)) ggX2_begin_X5_clear
set_option maxRecDepth 20000 in
theorem ggX2_begin_X2_step : GoodIn wsX2_begin wsX2_step := goodIn_r _ [36, 11, 8, 9, 7, 2, 37, 38, 39, 35, 40, 41, 42, 43, 44, 45, 46, 47, 48, 49, 50, 51, 52, 53, 54, 55, 56, 57, 58, 12, 59, 60, 61, 62, 63, 64, 65, 66, 67, 68, 69, 70, 71, 72, 73, 74, 75, 76] rfl (by decide +kernel)
set_option maxRecDepth 20000 in
theorem gX2_begin_X2_step : GoodIn wsX2_begin (wsV RX2 66 RX2 yX2_step wsX2_step) := goodIn_app (goodIn_of _ (by decide +kernel)) ggX2_begin_X2_step
theorem dX2_begin_0 : decode cX2_begin 0 = .ok (.aload_n 0, 1) := by decide +kernel
theorem dX2_begin_1 : decode cX2_begin 1 = .ok (.aload_n 2, 1) := by decide +kernel
theorem dX2_begin_2 : decode cX2_begin 2 = .ok (.putfield 26, 3) := by decide +kernel
theorem dX2_begin_5 : decode cX2_begin 5 = .ok (.aload_n 0, 1) := by decide +kernel
theorem dX2_begin_6 : decode cX2_begin 6 = .ok (.getfield 26, 3) := by decide +kernel
theorem dX2_begin_9 : decode cX2_begin 9 = .ok (.invokevirtual 44, 3) := by decide +kernel
theorem dX2_begin_12 : decode cX2_begin 12 = .ok (.aload_n 0, 1) := by decide +kernel
theorem dX2_begin_13 : decode cX2_begin 13 = .ok (.iload_n 1, 1) := by decide +kernel
theorem dX2_begin_14 : decode cX2_begin 14 = .ok (.aload_n 0, 1) := by decide +kernel
theorem dX2_begin_15 : decode cX2_begin 15 = .ok (.getfield 22, 3) := by decide +kernel
theorem dX2_begin_18 : decode cX2_begin 18 = .ok (.arraylength, 1) := by decide +kernel
theorem dX2_begin_19 : decode cX2_begin 19 = .ok (.invokestatic 49, 3) := by decide +kernel
theorem dX2_begin_22 : decode cX2_begin 22 = .ok (.putfield 55, 3) := by decide +kernel
theorem dX2_begin_25 : decode cX2_begin 25 = .ok (.aload_n 0, 1) := by decide +kernel
theorem dX2_begin_26 : decode cX2_begin 26 = .ok (.iconst 0, 1) := by decide +kernel
theorem dX2_begin_27 : decode cX2_begin 27 = .ok (.putfield 57, 3) := by decide +kernel
theorem dX2_begin_30 : decode cX2_begin 30 = .ok (.aload_n 0, 1) := by decide +kernel
theorem dX2_begin_31 : decode cX2_begin 31 = .ok (.sipush 256, 3) := by decide +kernel
theorem dX2_begin_34 : decode cX2_begin 34 = .ok (.putfield 15, 3) := by decide +kernel
theorem dX2_begin_37 : decode cX2_begin 37 = .ok (.aload_n 0, 1) := by decide +kernel
theorem dX2_begin_38 : decode cX2_begin 38 = .ok (.iconst 0, 1) := by decide +kernel
theorem dX2_begin_39 : decode cX2_begin 39 = .ok (.putfield 60, 3) := by decide +kernel
theorem dX2_begin_42 : decode cX2_begin 42 = .ok (.aload_n 0, 1) := by decide +kernel
theorem dX2_begin_43 : decode cX2_begin 43 = .ok (.iconst 0, 1) := by decide +kernel
theorem dX2_begin_44 : decode cX2_begin 44 = .ok (.putfield 63, 3) := by decide +kernel
theorem dX2_begin_47 : decode cX2_begin 47 = .ok (.aload_n 0, 1) := by decide +kernel
theorem dX2_begin_48 : decode cX2_begin 48 = .ok (.iconst (-1), 1) := by decide +kernel
theorem dX2_begin_49 : decode cX2_begin 49 = .ok (.putfield 19, 3) := by decide +kernel
theorem dX2_begin_52 : decode cX2_begin 52 = .ok (.aload_n 0, 1) := by decide +kernel
theorem dX2_begin_53 : decode cX2_begin 53 = .ok (.invokevirtual 66, 3) := by decide +kernel
theorem dX2_begin_56 : decode cX2_begin 56 = .ok (.return_, 1) := by decide +kernel
theorem dX2_goesOn_0 : decode cX2_goesOn 0 = .ok (.aload_n 0, 1) := by decide +kernel
theorem dX2_goesOn_1 : decode cX2_goesOn 1 = .ok (.getfield 63, 3) := by decide +kernel
theorem dX2_goesOn_4 : decode cX2_goesOn 4 = .ok (.ifCond .ne 17, 3) := by decide +kernel
theorem dX2_goesOn_7 : decode cX2_goesOn 7 = .ok (.aload_n 0, 1) := by decide +kernel
theorem dX2_goesOn_8 : decode cX2_goesOn 8 = .ok (.getfield 15, 3) := by decide +kernel
theorem dX2_goesOn_11 : decode cX2_goesOn 11 = .ok (.sipush 256, 3) := by decide +kernel
theorem dX2_goesOn_14 : decode cX2_goesOn 14 = .ok (.if_icmp .eq 7, 3) := by decide +kernel
theorem dX2_goesOn_17 : decode cX2_goesOn 17 = .ok (.iconst 1, 1) := by decide +kernel
theorem dX2_goesOn_18 : decode cX2_goesOn 18 = .ok (.goto 4, 3) := by decide +kernel
theorem dX2_goesOn_21 : decode cX2_goesOn 21 = .ok (.iconst 0, 1) := by decide +kernel
theorem dX2_goesOn_22 : decode cX2_goesOn 22 = .ok (.ireturn, 1) := by decide +kernel
set_option maxRecDepth 20000 in
theorem ggX2_statement_X2_beginsStatement : GoodIn wsX2_statement wsX2_beginsStatement := goodIn_r _ [11] rfl (by decide +kernel)
set_option maxRecDepth 20000 in
theorem gX2_statement_X2_beginsStatement : GoodIn wsX2_statement (va_wsS RX2 69 yX2_beginsStatement wsX2_beginsStatement) := goodIn_app (goodIn_of _ (by decide +kernel)) ggX2_statement_X2_beginsStatement
set_option maxRecDepth 20000 in
theorem ggX2_statement_X2_blame : GoodIn wsX2_statement wsX2_blame := goodIn_r _ [15, 16, 17, 1, 158, 159, 160, 161, 162, 163, 164, 165, 166, 167, 168] rfl (by decide +kernel)
set_option maxRecDepth 20000 in
theorem gX2_statement_X2_blame : GoodIn wsX2_statement (wsV RX2 76 RX2 yX2_blame wsX2_blame) := goodIn_app (goodIn_of _ (by decide +kernel)) ggX2_statement_X2_blame
set_option maxRecDepth 20000 in
theorem ggX2_statement_X2_isOneTooMany : GoodIn wsX2_statement wsX2_isOneTooMany := goodIn_r _ [21, 3, 22, 23, 24, 25, 10, 26, 27, 28, 29, 30, 31, 32, 33, 158, 159, 160, 161, 162, 163, 164, 165, 166, 167, 168, 169, 170, 171, 172, 173, 174, 175, 176, 177, 178, 179, 180, 181, 182, 183, 184, 185, 186, 187, 188] rfl (by decide +kernel)
set_option maxRecDepth 20000 in
theorem gX2_statement_X2_isOneTooMany : GoodIn wsX2_statement (wsV RX2 83 RX2 yX2_isOneTooMany wsX2_isOneTooMany) := goodIn_app (goodIn_of _ (by decide +kernel)) ggX2_statement_X2_isOneTooMany
set_option maxRecDepth 20000 in
theorem ggX2_statement_X2_step : GoodIn wsX2_statement wsX2_step := goodIn_r _ [37, 16, 38, 1, 39, 40, 2, 41, 42, 10, 43, 44, 45, 46, 47, 48, 49, 50, 51, 52, 53, 54, 55, 56, 57, 12, 13, 14, 15, 17, 58, 59, 60, 61, 62, 63, 64, 158, 159, 160, 161, 162, 163, 164, 165, 166, 167, 168] rfl (by decide +kernel)
set_option maxRecDepth 20000 in
theorem gX2_statement_X2_step : GoodIn wsX2_statement (wsV RX2 66 RX2 yX2_step wsX2_step) := goodIn_app (goodIn_of _ (by decide +kernel)) ggX2_statement_X2_step
set_option maxRecDepth 20000 in
theorem ggX2_statement_X2_readThing : GoodIn wsX2_statement wsX2_readThing := goodIn_r _ [68, 1, 3, 22, 16, 69, 70, 71, 72, 73, 74, 75, 10, 76, 52, 2, 77, 23, 12, 13, 14, 15, 17, 78, 79, 80, 34, 35, 36, 37, 38, 39, 40, 41, 42, 43, 44, 45, 46, 47, 48, 49, 50, 51, 53, 54, 55, 56, 57, 58, 59, 60, 61, 62, 63, 64, 81, 82, 83, 84, 85, 86, 87, 88, 158, 159, 160, 161, 162, 163, 164, 165, 166, 167, 168, 169, 170, 171, 172, 173, 174, 175, 176, 177, 178, 179, 180, 181, 182, 183, 184, 185, 186, 187, 188] rfl (by decide +kernel)
set_option maxRecDepth 20000 in
theorem gX2_statement_X2_readThing : GoodIn wsX2_statement (wsV RX2 86 RX2 yX2_readThing wsX2_readThing) := goodIn_app (goodIn_of _ (by decide +kernel)) ggX2_statement_X2_readThing
set_option maxRecDepth 20000 in
theorem ggX2_statement_X2_readWish : GoodIn wsX2_statement wsX2_readWish := goodIn_r _ [92, 1, 3, 23, 16, 77, 93, 94, 95, 96, 73, 74, 75, 10, 76, 52, 2, 69, 22, 12, 13, 14, 15, 17, 78, 79, 80, 34, 35, 36, 37, 38, 39, 40, 41, 42, 43, 44, 45, 46, 47, 48, 49, 50, 51, 53, 54, 55, 56, 57, 58, 59, 60, 61, 62, 63, 64, 81, 82, 83, 84, 85, 86, 87, 88, 97, 98, 99, 100, 101, 102, 103, 104, 105, 106, 107, 158, 159, 160, 161, 162, 163, 164, 165, 166, 167, 168, 169, 170, 171, 172, 173, 174, 175, 176, 177, 178, 179, 180, 181, 182, 183, 184, 185, 186, 187, 188] rfl (by decide +kernel)
set_option maxRecDepth 20000 in
theorem gX2_statement_X2_readWish : GoodIn wsX2_statement (wsV RX2 89 RX2 yX2_readWish wsX2_readWish) := goodIn_app (goodIn_of _ (by decide +kernel)) ggX2_statement_X2_readWish
set_option maxRecDepth 20000 in
theorem ggX2_statement_X2_askedThing : GoodIn wsX2_statement wsX2_askedThing := goodIn_r _ [100, 1, 2, 52, 3, 69, 22, 12, 13, 14, 10, 15, 16, 17, 78, 79, 80, 34, 35, 36, 37, 38, 39, 40, 41, 42, 43, 44, 45, 46, 47, 48, 49, 50, 51, 53, 54, 55, 56, 57, 58, 59, 60, 61, 62, 63, 64, 158, 159, 160, 161, 162, 163, 164, 165, 166, 167, 168, 169, 170, 171, 172, 173, 174, 175, 176, 177, 178, 179, 180, 181, 182, 183, 184, 185, 186, 187, 188] rfl (by decide +kernel)
set_option maxRecDepth 20000 in
theorem gX2_statement_X2_askedThing : GoodIn wsX2_statement (wsV RX2 95 RX2 yX2_askedThing wsX2_askedThing) := goodIn_app (goodIn_of _ (by decide +kernel)) ggX2_statement_X2_askedThing
set_option maxRecDepth 20000 in
theorem ggX2_statement_X2_bitOf : GoodIn wsX2_statement wsX2_bitOf := goodIn_r _ [107] rfl (by decide +kernel)
set_option maxRecDepth 20000 in
theorem gX2_statement_X2_bitOf : GoodIn wsX2_statement (va_wsS RX2 99 yX2_bitOf wsX2_bitOf) := goodIn_app (goodIn_of _ (by decide +kernel)) ggX2_statement_X2_bitOf
set_option maxRecDepth 20000 in
theorem ggX2_statement_X2_numberFrom : GoodIn wsX2_statement wsX2_numberFrom := goodIn_r _ [88, 52, 1, 2, 12, 13, 14, 10, 15, 16, 17, 34, 35, 36, 37, 38, 39, 40, 41, 42, 43, 44, 45, 46, 47, 48, 49, 50, 51, 53, 54, 55, 56, 57, 58, 59, 60, 61, 62, 63, 64, 158, 159, 160, 161, 162, 163, 164, 165, 166, 167, 168] rfl (by decide +kernel)
set_option maxRecDepth 20000 in
theorem gX2_statement_X2_numberFrom : GoodIn wsX2_statement (wsV RX2 102 RX2 yX2_numberFrom wsX2_numberFrom) := goodIn_app (goodIn_of _ (by decide +kernel)) ggX2_statement_X2_numberFrom
set_option maxRecDepth 20000 in
theorem ggX2_statement_X2_codeOf : GoodIn wsX2_statement wsX2_codeOf := goodIn_r _ [26] rfl (by decide +kernel)
set_option maxRecDepth 20000 in
theorem gX2_statement_X2_codeOf : GoodIn wsX2_statement (va_wsS RX2 111 yX2_codeOf wsX2_codeOf) := goodIn_app (goodIn_of _ (by decide +kernel)) ggX2_statement_X2_codeOf
set_option maxRecDepth 20000 in
theorem ggX2_statement_X5_beginCode : GoodIn wsX2_statement wsX5_beginCode := goodIn_r _ [111, 33, 112, 169, 170, 171, 172, 173, 174, 175, 176, 177, 178, 179, 180, 181, 182, 183, 184, 185, 186, 187, 188] rfl (by decide +kernel)
set_option maxRecDepth 20000 in
theorem gX2_statement_X5_beginCode : GoodIn wsX2_statement (wsV RX2 114 RX5 yX5_beginCode wsX5_beginCode) := goodIn_app (goodIn_of _ (by decide +kernel)) ggX2_statement_X5_beginCode
set_option maxRecDepth 20000 in
theorem ggX2_statement_X2_readTest : GoodIn wsX2_statement wsX2_readTest := goodIn_r _ [116, 39, 1, 3, 117, 118, 119, 10, 34, 35, 36, 37, 16, 38, 40, 2, 41, 42, 43, 44, 45, 46, 47, 48, 49, 50, 51, 52, 53, 54, 55, 56, 57, 12, 13, 14, 15, 17, 58, 59, 60, 61, 62, 63, 64, 120, 121, 122, 30, 123, 112, 124, 125, 126, 127, 128, 129, 130, 131, 132, 133, 134, 113, 114, 115, 81, 82, 83, 84, 135, 136, 137, 138, 139, 140, 141, 142, 143, 144, 145, 146, 147, 148, 149, 150, 151, 152, 153, 158, 159, 160, 161, 162, 163, 164, 165, 166, 167, 168, 169, 170, 171, 172, 173, 174, 175, 176, 177, 178, 179, 180, 181, 182, 183, 184, 185, 186, 187, 188] rfl (by decide +kernel)
set_option maxRecDepth 20000 in
theorem gX2_statement_X2_readTest : GoodIn wsX2_statement (wsV RX2 118 RX2 yX2_readTest wsX2_readTest) := goodIn_app (goodIn_of _ (by decide +kernel)) ggX2_statement_X2_readTest
set_option maxRecDepth 20000 in
theorem ggX2_statement_X2_readSum : GoodIn wsX2_statement wsX2_readSum := goodIn_r _ [138, 39, 1, 3, 139, 140, 141, 10, 34, 35, 36, 37, 16, 38, 40, 2, 41, 42, 43, 44, 45, 46, 47, 48, 49, 50, 51, 52, 53, 54, 55, 56, 57, 12, 13, 14, 15, 17, 58, 59, 60, 61, 62, 63, 64, 120, 121, 122, 30, 123, 112, 124, 142, 130, 131, 132, 133, 134, 135, 136, 137, 81, 82, 83, 84, 143, 144, 145, 146, 147, 148, 149, 150, 151, 152, 153, 158, 159, 160, 161, 162, 163, 164, 165, 166, 167, 168, 169, 170, 171, 172, 173, 174, 175, 176, 177, 178, 179, 180, 181, 182, 183, 184, 185, 186, 187, 188] rfl (by decide +kernel)
set_option maxRecDepth 20000 in
theorem gX2_statement_X2_readSum : GoodIn wsX2_statement (wsV RX2 121 RX2 yX2_readSum wsX2_readSum) := goodIn_app (goodIn_of _ (by decide +kernel)) ggX2_statement_X2_readSum
set_option maxRecDepth 20000 in
theorem ggX2_statement_X5_endCode : GoodIn wsX2_statement wsX5_endCode := goodIn_r _ [157, 32, 112, 169, 170, 171, 172, 173, 174, 175, 176, 177, 178, 179, 180, 181, 182, 183, 184, 185, 186, 187, 188] rfl (by decide +kernel)
set_option maxRecDepth 20000 in
theorem gX2_statement_X5_endCode : GoodIn wsX2_statement (wsV RX2 124 RX5 yX5_endCode wsX5_endCode) := goodIn_app (goodIn_of _ (by decide +kernel)) ggX2_statement_X5_endCode
set_option maxRecDepth 20000 in
theorem ggX2_statement_X2_pass : GoodIn wsX2_statement wsX2_pass := goodIn_r _ [84, 1, 2, 12, 13, 14, 10, 15, 16, 17, 34, 35, 36, 37, 38, 39, 40, 41, 42, 43, 44, 45, 46, 47, 48, 49, 50, 51, 52, 53, 54, 55, 56, 57, 58, 59, 60, 61, 62, 63, 64, 158, 159, 160, 161, 162, 163, 164, 165, 166, 167, 168] rfl (by decide +kernel)
set_option maxRecDepth 20000 in
theorem gX2_statement_X2_pass : GoodIn wsX2_statement (wsV RX2 127 RX2 yX2_pass wsX2_pass) := goodIn_app (goodIn_of _ (by decide +kernel)) ggX2_statement_X2_pass
theorem dX2_statement_0 : decode cX2_statement 0 = .ok (.aload_n 0, 1) := by decide +kernel
theorem dX2_statement_1 : decode cX2_statement 1 = .ok (.getfield 15, 3) := by decide +kernel
theorem dX2_statement_4 : decode cX2_statement 4 = .ok (.istore_n 1, 1) := by decide +kernel
theorem dX2_statement_5 : decode cX2_statement 5 = .ok (.iload_n 1, 1) := by decide +kernel
theorem dX2_statement_6 : decode cX2_statement 6 = .ok (.invokestatic 69, 3) := by decide +kernel
theorem dX2_statement_9 : decode cX2_statement 9 = .ok (.ifCond .ne 13, 3) := by decide +kernel
theorem dX2_statement_12 : decode cX2_statement 12 = .ok (.aload_n 0, 1) := by decide +kernel
theorem dX2_statement_13 : decode cX2_statement 13 = .ok (.iconst 1, 1) := by decide +kernel
theorem dX2_statement_14 : decode cX2_statement 14 = .ok (.aload_n 0, 1) := by decide +kernel
theorem dX2_statement_15 : decode cX2_statement 15 = .ok (.getfield 73, 3) := by decide +kernel
theorem dX2_statement_18 : decode cX2_statement 18 = .ok (.invokevirtual 76, 3) := by decide +kernel
theorem dX2_statement_21 : decode cX2_statement 21 = .ok (.return_, 1) := by decide +kernel
theorem dX2_statement_22 : decode cX2_statement 22 = .ok (.aload_n 0, 1) := by decide +kernel
theorem dX2_statement_23 : decode cX2_statement 23 = .ok (.getfield 26, 3) := by decide +kernel
theorem dX2_statement_26 : decode cX2_statement 26 = .ok (.getfield 80, 3) := by decide +kernel
theorem dX2_statement_29 : decode cX2_statement 29 = .ok (.bipush 80, 2) := by decide +kernel
theorem dX2_statement_31 : decode cX2_statement 31 = .ok (.if_icmp .ge 11, 3) := by decide +kernel
theorem dX2_statement_34 : decode cX2_statement 34 = .ok (.aload_n 0, 1) := by decide +kernel
theorem dX2_statement_35 : decode cX2_statement 35 = .ok (.iload_n 1, 1) := by decide +kernel
theorem dX2_statement_36 : decode cX2_statement 36 = .ok (.invokevirtual 83, 3) := by decide +kernel
theorem dX2_statement_39 : decode cX2_statement 39 = .ok (.ifCond .eq 14, 3) := by decide +kernel
theorem dX2_statement_42 : decode cX2_statement 42 = .ok (.aload_n 0, 1) := by decide +kernel
theorem dX2_statement_43 : decode cX2_statement 43 = .ok (.bipush 6, 2) := by decide +kernel
theorem dX2_statement_45 : decode cX2_statement 45 = .ok (.aload_n 0, 1) := by decide +kernel
theorem dX2_statement_46 : decode cX2_statement 46 = .ok (.getfield 73, 3) := by decide +kernel
theorem dX2_statement_49 : decode cX2_statement 49 = .ok (.invokevirtual 76, 3) := by decide +kernel
theorem dX2_statement_52 : decode cX2_statement 52 = .ok (.return_, 1) := by decide +kernel
theorem dX2_statement_53 : decode cX2_statement 53 = .ok (.aload_n 0, 1) := by decide +kernel
theorem dX2_statement_54 : decode cX2_statement 54 = .ok (.invokevirtual 66, 3) := by decide +kernel
theorem dX2_statement_57 : decode cX2_statement 57 = .ok (.iload_n 1, 1) := by decide +kernel
theorem dX2_statement_58 : decode cX2_statement 58 = .ok (.tableswitch 153 300 314 #[74, 153, 153, 153, 81, 153, 153, 153, 153, 88, 153, 153, 153, 117, 135], 74) := by decide +kernel
theorem dX2_statement_132 : decode cX2_statement 132 = .ok (.aload_n 0, 1) := by decide +kernel
theorem dX2_statement_133 : decode cX2_statement 133 = .ok (.invokevirtual 86, 3) := by decide +kernel
theorem dX2_statement_136 : decode cX2_statement 136 = .ok (.goto 115, 3) := by decide +kernel
theorem dX2_statement_139 : decode cX2_statement 139 = .ok (.aload_n 0, 1) := by decide +kernel
theorem dX2_statement_140 : decode cX2_statement 140 = .ok (.invokevirtual 89, 3) := by decide +kernel
theorem dX2_statement_143 : decode cX2_statement 143 = .ok (.goto 108, 3) := by decide +kernel
theorem dX2_statement_146 : decode cX2_statement 146 = .ok (.aload_n 0, 1) := by decide +kernel
theorem dX2_statement_147 : decode cX2_statement 147 = .ok (.getfield 26, 3) := by decide +kernel
theorem dX2_statement_150 : decode cX2_statement 150 = .ok (.dup, 1) := by decide +kernel
theorem dX2_statement_151 : decode cX2_statement 151 = .ok (.getfield 92, 3) := by decide +kernel
theorem dX2_statement_154 : decode cX2_statement 154 = .ok (.aload_n 0, 1) := by decide +kernel
theorem dX2_statement_155 : decode cX2_statement 155 = .ok (.aload_n 0, 1) := by decide +kernel
theorem dX2_statement_156 : decode cX2_statement 156 = .ok (.getfield 26, 3) := by decide +kernel
theorem dX2_statement_159 : decode cX2_statement 159 = .ok (.getfield 92, 3) := by decide +kernel
theorem dX2_statement_162 : decode cX2_statement 162 = .ok (.invokevirtual 95, 3) := by decide +kernel
theorem dX2_statement_165 : decode cX2_statement 165 = .ok (.invokestatic 99, 3) := by decide +kernel
theorem dX2_statement_168 : decode cX2_statement 168 = .ok (.ior, 1) := by decide +kernel
theorem dX2_statement_169 : decode cX2_statement 169 = .ok (.putfield 92, 3) := by decide +kernel
theorem dX2_statement_172 : decode cX2_statement 172 = .ok (.goto 79, 3) := by decide +kernel
theorem dX2_statement_175 : decode cX2_statement 175 = .ok (.aload_n 0, 1) := by decide +kernel
theorem dX2_statement_176 : decode cX2_statement 176 = .ok (.getfield 26, 3) := by decide +kernel
theorem dX2_statement_179 : decode cX2_statement 179 = .ok (.aload_n 0, 1) := by decide +kernel
theorem dX2_statement_180 : decode cX2_statement 180 = .ok (.iconst 1, 1) := by decide +kernel
theorem dX2_statement_181 : decode cX2_statement 181 = .ok (.sipush 999, 3) := by decide +kernel
theorem dX2_statement_184 : decode cX2_statement 184 = .ok (.invokevirtual 102, 3) := by decide +kernel
theorem dX2_statement_187 : decode cX2_statement 187 = .ok (.putfield 105, 3) := by decide +kernel
theorem dX2_statement_190 : decode cX2_statement 190 = .ok (.goto 61, 3) := by decide +kernel
theorem dX2_statement_193 : decode cX2_statement 193 = .ok (.aload_n 0, 1) := by decide +kernel
theorem dX2_statement_194 : decode cX2_statement 194 = .ok (.getfield 26, 3) := by decide +kernel
theorem dX2_statement_197 : decode cX2_statement 197 = .ok (.aload_n 0, 1) := by decide +kernel
theorem dX2_statement_198 : decode cX2_statement 198 = .ok (.iconst 0, 1) := by decide +kernel
theorem dX2_statement_199 : decode cX2_statement 199 = .ok (.sipush 999, 3) := by decide +kernel
theorem dX2_statement_202 : decode cX2_statement 202 = .ok (.invokevirtual 102, 3) := by decide +kernel
theorem dX2_statement_205 : decode cX2_statement 205 = .ok (.putfield 108, 3) := by decide +kernel
theorem dX2_statement_208 : decode cX2_statement 208 = .ok (.goto 43, 3) := by decide +kernel
theorem dX2_statement_211 : decode cX2_statement 211 = .ok (.aload_n 0, 1) := by decide +kernel
theorem dX2_statement_212 : decode cX2_statement 212 = .ok (.getfield 26, 3) := by decide +kernel
theorem dX2_statement_215 : decode cX2_statement 215 = .ok (.iload_n 1, 1) := by decide +kernel
theorem dX2_statement_216 : decode cX2_statement 216 = .ok (.invokestatic 111, 3) := by decide +kernel
theorem dX2_statement_219 : decode cX2_statement 219 = .ok (.invokevirtual 114, 3) := by decide +kernel
theorem dX2_statement_222 : decode cX2_statement 222 = .ok (.iload_n 1, 1) := by decide +kernel
theorem dX2_statement_223 : decode cX2_statement 223 = .ok (.sipush 312, 3) := by decide +kernel
theorem dX2_statement_226 : decode cX2_statement 226 = .ok (.if_icmp .ne 10, 3) := by decide +kernel
theorem dX2_statement_229 : decode cX2_statement 229 = .ok (.aload_n 0, 1) := by decide +kernel
theorem dX2_statement_230 : decode cX2_statement 230 = .ok (.invokevirtual 118, 3) := by decide +kernel
theorem dX2_statement_233 : decode cX2_statement 233 = .ok (.goto 7, 3) := by decide +kernel
theorem dX2_statement_236 : decode cX2_statement 236 = .ok (.aload_n 0, 1) := by decide +kernel
theorem dX2_statement_237 : decode cX2_statement 237 = .ok (.invokevirtual 121, 3) := by decide +kernel
theorem dX2_statement_240 : decode cX2_statement 240 = .ok (.aload_n 0, 1) := by decide +kernel
theorem dX2_statement_241 : decode cX2_statement 241 = .ok (.getfield 26, 3) := by decide +kernel
theorem dX2_statement_244 : decode cX2_statement 244 = .ok (.iload_n 1, 1) := by decide +kernel
theorem dX2_statement_245 : decode cX2_statement 245 = .ok (.invokestatic 111, 3) := by decide +kernel
theorem dX2_statement_248 : decode cX2_statement 248 = .ok (.invokevirtual 124, 3) := by decide +kernel
theorem dX2_statement_251 : decode cX2_statement 251 = .ok (.aload_n 0, 1) := by decide +kernel
theorem dX2_statement_252 : decode cX2_statement 252 = .ok (.getfield 26, 3) := by decide +kernel
theorem dX2_statement_255 : decode cX2_statement 255 = .ok (.dup, 1) := by decide +kernel
theorem dX2_statement_256 : decode cX2_statement 256 = .ok (.getfield 80, 3) := by decide +kernel
theorem dX2_statement_259 : decode cX2_statement 259 = .ok (.iconst 1, 1) := by decide +kernel
theorem dX2_statement_260 : decode cX2_statement 260 = .ok (.iadd, 1) := by decide +kernel
theorem dX2_statement_261 : decode cX2_statement 261 = .ok (.putfield 80, 3) := by decide +kernel
theorem dX2_statement_264 : decode cX2_statement 264 = .ok (.aload_n 0, 1) := by decide +kernel
theorem dX2_statement_265 : decode cX2_statement 265 = .ok (.bipush 59, 2) := by decide +kernel
theorem dX2_statement_267 : decode cX2_statement 267 = .ok (.invokevirtual 127, 3) := by decide +kernel
theorem dX2_statement_270 : decode cX2_statement 270 = .ok (.return_, 1) := by decide +kernel
theorem dX2_beginsStatement_0 : decode cX2_beginsStatement 0 = .ok (.iload_n 0, 1) := by decide +kernel
theorem dX2_beginsStatement_1 : decode cX2_beginsStatement 1 = .ok (.sipush 300, 3) := by decide +kernel
theorem dX2_beginsStatement_4 : decode cX2_beginsStatement 4 = .ok (.if_icmp .eq 24, 3) := by decide +kernel
theorem dX2_beginsStatement_7 : decode cX2_beginsStatement 7 = .ok (.iload_n 0, 1) := by decide +kernel
theorem dX2_beginsStatement_8 : decode cX2_beginsStatement 8 = .ok (.sipush 304, 3) := by decide +kernel
theorem dX2_beginsStatement_11 : decode cX2_beginsStatement 11 = .ok (.if_icmp .eq 17, 3) := by decide +kernel
theorem dX2_beginsStatement_14 : decode cX2_beginsStatement 14 = .ok (.iload_n 0, 1) := by decide +kernel
theorem dX2_beginsStatement_15 : decode cX2_beginsStatement 15 = .ok (.sipush 309, 3) := by decide +kernel
theorem dX2_beginsStatement_18 : decode cX2_beginsStatement 18 = .ok (.if_icmp .lt 14, 3) := by decide +kernel
theorem dX2_beginsStatement_21 : decode cX2_beginsStatement 21 = .ok (.iload_n 0, 1) := by decide +kernel
theorem dX2_beginsStatement_22 : decode cX2_beginsStatement 22 = .ok (.sipush 314, 3) := by decide +kernel
theorem dX2_beginsStatement_25 : decode cX2_beginsStatement 25 = .ok (.if_icmp .gt 7, 3) := by decide +kernel
theorem dX2_beginsStatement_28 : decode cX2_beginsStatement 28 = .ok (.iconst 1, 1) := by decide +kernel
theorem dX2_beginsStatement_29 : decode cX2_beginsStatement 29 = .ok (.goto 4, 3) := by decide +kernel
theorem dX2_beginsStatement_32 : decode cX2_beginsStatement 32 = .ok (.iconst 0, 1) := by decide +kernel
theorem dX2_beginsStatement_33 : decode cX2_beginsStatement 33 = .ok (.ireturn, 1) := by decide +kernel
theorem dX2_codeOf_0 : decode cX2_codeOf 0 = .ok (.iload_n 0, 1) := by decide +kernel
theorem dX2_codeOf_1 : decode cX2_codeOf 1 = .ok (.sipush 310, 3) := by decide +kernel
theorem dX2_codeOf_4 : decode cX2_codeOf 4 = .ok (.if_icmp .ne 7, 3) := by decide +kernel
theorem dX2_codeOf_7 : decode cX2_codeOf 7 = .ok (.iconst 0, 1) := by decide +kernel
theorem dX2_codeOf_8 : decode cX2_codeOf 8 = .ok (.goto 15, 3) := by decide +kernel
theorem dX2_codeOf_11 : decode cX2_codeOf 11 = .ok (.iload_n 0, 1) := by decide +kernel
theorem dX2_codeOf_12 : decode cX2_codeOf 12 = .ok (.sipush 311, 3) := by decide +kernel
theorem dX2_codeOf_15 : decode cX2_codeOf 15 = .ok (.if_icmp .ne 7, 3) := by decide +kernel
theorem dX2_codeOf_18 : decode cX2_codeOf 18 = .ok (.iconst 1, 1) := by decide +kernel
theorem dX2_codeOf_19 : decode cX2_codeOf 19 = .ok (.goto 4, 3) := by decide +kernel
theorem dX2_codeOf_22 : decode cX2_codeOf 22 = .ok (.iconst 2, 1) := by decide +kernel
theorem dX2_codeOf_23 : decode cX2_codeOf 23 = .ok (.ireturn, 1) := by decide +kernel
set_option maxRecDepth 20000 in
theorem ggX2_isOneTooMany_X2_codeOf : GoodIn wsX2_isOneTooMany wsX2_codeOf := goodIn_r _ [7] rfl (by decide +kernel)
set_option maxRecDepth 20000 in
theorem gX2_isOneTooMany_X2_codeOf : GoodIn wsX2_isOneTooMany (va_wsS RX2 111 yX2_codeOf wsX2_codeOf) := goodIn_app (goodIn_of _ (by decide +kernel)) ggX2_isOneTooMany_X2_codeOf
set_option maxRecDepth 20000 in
theorem ggX2_isOneTooMany_X5_tells : GoodIn wsX2_isOneTooMany wsX5_tells := goodIn_r _ [12, 13, 14, 26, 27, 28, 29, 30, 31, 32, 33, 34, 35, 36, 37, 38, 39, 40, 41, 42, 43, 44, 45] rfl (by decide +kernel)
set_option maxRecDepth 20000 in
theorem gX2_isOneTooMany_X5_tells : GoodIn wsX2_isOneTooMany (wsV RX2 136 RX5 yX5_tells wsX5_tells) := goodIn_app (goodIn_of _ (by decide +kernel)) ggX2_isOneTooMany_X5_tells
theorem dX2_isOneTooMany_0 : decode cX2_isOneTooMany 0 = .ok (.iload_n 1, 1) := by decide +kernel
theorem dX2_isOneTooMany_1 : decode cX2_isOneTooMany 1 = .ok (.tableswitch 115 300 312 #[67, 115, 115, 115, 85, 115, 115, 115, 115, 115, 103, 103, 103], 67) := by decide +kernel
theorem dX2_isOneTooMany_68 : decode cX2_isOneTooMany 68 = .ok (.aload_n 0, 1) := by decide +kernel
theorem dX2_isOneTooMany_69 : decode cX2_isOneTooMany 69 = .ok (.getfield 26, 3) := by decide +kernel
theorem dX2_isOneTooMany_72 : decode cX2_isOneTooMany 72 = .ok (.getfield 130, 3) := by decide +kernel
theorem dX2_isOneTooMany_75 : decode cX2_isOneTooMany 75 = .ok (.bipush 10, 2) := by decide +kernel
theorem dX2_isOneTooMany_77 : decode cX2_isOneTooMany 77 = .ok (.if_icmp .lt 7, 3) := by decide +kernel
theorem dX2_isOneTooMany_80 : decode cX2_isOneTooMany 80 = .ok (.iconst 1, 1) := by decide +kernel
theorem dX2_isOneTooMany_81 : decode cX2_isOneTooMany 81 = .ok (.goto 4, 3) := by decide +kernel
theorem dX2_isOneTooMany_84 : decode cX2_isOneTooMany 84 = .ok (.iconst 0, 1) := by decide +kernel
theorem dX2_isOneTooMany_85 : decode cX2_isOneTooMany 85 = .ok (.ireturn, 1) := by decide +kernel
theorem dX2_isOneTooMany_86 : decode cX2_isOneTooMany 86 = .ok (.aload_n 0, 1) := by decide +kernel
theorem dX2_isOneTooMany_87 : decode cX2_isOneTooMany 87 = .ok (.getfield 26, 3) := by decide +kernel
theorem dX2_isOneTooMany_90 : decode cX2_isOneTooMany 90 = .ok (.getfield 133, 3) := by decide +kernel
theorem dX2_isOneTooMany_93 : decode cX2_isOneTooMany 93 = .ok (.bipush 12, 2) := by decide +kernel
theorem dX2_isOneTooMany_95 : decode cX2_isOneTooMany 95 = .ok (.if_icmp .lt 7, 3) := by decide +kernel
theorem dX2_isOneTooMany_98 : decode cX2_isOneTooMany 98 = .ok (.iconst 1, 1) := by decide +kernel
theorem dX2_isOneTooMany_99 : decode cX2_isOneTooMany 99 = .ok (.goto 4, 3) := by decide +kernel
theorem dX2_isOneTooMany_102 : decode cX2_isOneTooMany 102 = .ok (.iconst 0, 1) := by decide +kernel
theorem dX2_isOneTooMany_103 : decode cX2_isOneTooMany 103 = .ok (.ireturn, 1) := by decide +kernel
theorem dX2_isOneTooMany_104 : decode cX2_isOneTooMany 104 = .ok (.aload_n 0, 1) := by decide +kernel
theorem dX2_isOneTooMany_105 : decode cX2_isOneTooMany 105 = .ok (.getfield 26, 3) := by decide +kernel
theorem dX2_isOneTooMany_108 : decode cX2_isOneTooMany 108 = .ok (.iload_n 1, 1) := by decide +kernel
theorem dX2_isOneTooMany_109 : decode cX2_isOneTooMany 109 = .ok (.invokestatic 111, 3) := by decide +kernel
theorem dX2_isOneTooMany_112 : decode cX2_isOneTooMany 112 = .ok (.invokevirtual 136, 3) := by decide +kernel
theorem dX2_isOneTooMany_115 : decode cX2_isOneTooMany 115 = .ok (.ireturn, 1) := by decide +kernel
theorem dX2_isOneTooMany_116 : decode cX2_isOneTooMany 116 = .ok (.iconst 0, 1) := by decide +kernel
theorem dX2_isOneTooMany_117 : decode cX2_isOneTooMany 117 = .ok (.ireturn, 1) := by decide +kernel
set_option maxRecDepth 20000 in
theorem ggX2_readThing_X2_newName : GoodIn wsX2_readThing wsX2_newName := goodIn_r _ [13, 14, 1, 15, 2, 5, 3, 16, 17, 18, 19, 20, 12, 21, 4, 22, 23, 24, 25, 26, 27, 28, 29, 30, 31, 32, 33, 34, 35, 36, 37, 38, 39, 40, 41, 42, 43, 44, 45, 46, 47, 48, 49, 50, 51, 52, 53, 54, 55, 64, 65, 66, 67, 68, 69, 70, 71, 72, 73, 74, 75, 76, 77, 78, 79, 80, 81, 82, 83, 84, 85, 86, 87, 88, 89, 90, 91, 92, 93, 94] rfl (by decide +kernel)
set_option maxRecDepth 20000 in
theorem gX2_readThing_X2_newName : GoodIn wsX2_readThing (wsV RX2 139 RX2 yX2_newName wsX2_newName) := goodIn_app (goodIn_of _ (by decide +kernel)) ggX2_readThing_X2_newName
set_option maxRecDepth 20000 in
theorem ggX2_readThing_X2_pass : GoodIn wsX2_readThing wsX2_pass := goodIn_r _ [59, 1, 15, 18, 19, 20, 12, 21, 4, 22, 26, 27, 28, 29, 30, 31, 32, 33, 34, 35, 36, 37, 38, 39, 40, 41, 42, 43, 14, 44, 45, 46, 47, 48, 49, 50, 51, 52, 53, 54, 55, 64, 65, 66, 67, 68, 69, 70, 71, 72, 73, 74] rfl (by decide +kernel)
set_option maxRecDepth 20000 in
theorem gX2_readThing_X2_pass : GoodIn wsX2_readThing (wsV RX2 127 RX2 yX2_pass wsX2_pass) := goodIn_app (goodIn_of _ (by decide +kernel)) ggX2_readThing_X2_pass
set_option maxRecDepth 20000 in
theorem ggX2_readThing_X2_numberFrom : GoodIn wsX2_readThing wsX2_numberFrom := goodIn_r _ [63, 14, 1, 15, 18, 19, 20, 12, 21, 4, 22, 26, 27, 28, 29, 30, 31, 32, 33, 34, 35, 36, 37, 38, 39, 40, 41, 42, 43, 44, 45, 46, 47, 48, 49, 50, 51, 52, 53, 54, 55, 64, 65, 66, 67, 68, 69, 70, 71, 72, 73, 74] rfl (by decide +kernel)
set_option maxRecDepth 20000 in
theorem gX2_readThing_X2_numberFrom : GoodIn wsX2_readThing (wsV RX2 102 RX2 yX2_numberFrom wsX2_numberFrom) := goodIn_app (goodIn_of _ (by decide +kernel)) ggX2_readThing_X2_numberFrom
set_option maxRecDepth 20000 in
theorem ggX2_readThing_X2_step : GoodIn wsX2_readThing wsX2_step := goodIn_r _ [29, 4, 30, 1, 31, 32, 15, 33, 34, 12, 35, 36, 37, 38, 39, 40, 41, 42, 43, 14, 44, 45, 46, 47, 48, 18, 19, 20, 21, 22, 49, 50, 51, 52, 53, 54, 55, 64, 65, 66, 67, 68, 69, 70, 71, 72, 73, 74] rfl (by decide +kernel)
set_option maxRecDepth 20000 in
theorem gX2_readThing_X2_step : GoodIn wsX2_readThing (wsV RX2 66 RX2 yX2_step wsX2_step) := goodIn_app (goodIn_of _ (by decide +kernel)) ggX2_readThing_X2_step
theorem dX2_readThing_0 : decode cX2_readThing 0 = .ok (.aload_n 0, 1) := by decide +kernel
theorem dX2_readThing_1 : decode cX2_readThing 1 = .ok (.invokevirtual 139, 3) := by decide +kernel
theorem dX2_readThing_4 : decode cX2_readThing 4 = .ok (.istore_n 1, 1) := by decide +kernel
theorem dX2_readThing_5 : decode cX2_readThing 5 = .ok (.aload_n 0, 1) := by decide +kernel
theorem dX2_readThing_6 : decode cX2_readThing 6 = .ok (.sipush 301, 3) := by decide +kernel
theorem dX2_readThing_9 : decode cX2_readThing 9 = .ok (.invokevirtual 127, 3) := by decide +kernel
theorem dX2_readThing_12 : decode cX2_readThing 12 = .ok (.aload_n 0, 1) := by decide +kernel
theorem dX2_readThing_13 : decode cX2_readThing 13 = .ok (.iconst 0, 1) := by decide +kernel
theorem dX2_readThing_14 : decode cX2_readThing 14 = .ok (.bipush 99, 2) := by decide +kernel
theorem dX2_readThing_16 : decode cX2_readThing 16 = .ok (.invokevirtual 102, 3) := by decide +kernel
theorem dX2_readThing_19 : decode cX2_readThing 19 = .ok (.istore_n 2, 1) := by decide +kernel
theorem dX2_readThing_20 : decode cX2_readThing 20 = .ok (.aload_n 0, 1) := by decide +kernel
theorem dX2_readThing_21 : decode cX2_readThing 21 = .ok (.sipush 302, 3) := by decide +kernel
theorem dX2_readThing_24 : decode cX2_readThing 24 = .ok (.invokevirtual 127, 3) := by decide +kernel
theorem dX2_readThing_27 : decode cX2_readThing 27 = .ok (.aload_n 0, 1) := by decide +kernel
theorem dX2_readThing_28 : decode cX2_readThing 28 = .ok (.iconst 1, 1) := by decide +kernel
theorem dX2_readThing_29 : decode cX2_readThing 29 = .ok (.bipush 9, 2) := by decide +kernel
theorem dX2_readThing_31 : decode cX2_readThing 31 = .ok (.invokevirtual 102, 3) := by decide +kernel
theorem dX2_readThing_34 : decode cX2_readThing 34 = .ok (.istore_n 3, 1) := by decide +kernel
theorem dX2_readThing_35 : decode cX2_readThing 35 = .ok (.aload_n 0, 1) := by decide +kernel
theorem dX2_readThing_36 : decode cX2_readThing 36 = .ok (.getfield 15, 3) := by decide +kernel
theorem dX2_readThing_39 : decode cX2_readThing 39 = .ok (.sipush 303, 3) := by decide +kernel
theorem dX2_readThing_42 : decode cX2_readThing 42 = .ok (.if_icmp .ne 7, 3) := by decide +kernel
theorem dX2_readThing_45 : decode cX2_readThing 45 = .ok (.iconst 1, 1) := by decide +kernel
theorem dX2_readThing_46 : decode cX2_readThing 46 = .ok (.goto 4, 3) := by decide +kernel
theorem dX2_readThing_49 : decode cX2_readThing 49 = .ok (.iconst 0, 1) := by decide +kernel
theorem dX2_readThing_50 : decode cX2_readThing 50 = .ok (.istore 4, 2) := by decide +kernel
theorem dX2_readThing_52 : decode cX2_readThing 52 = .ok (.iload 4, 2) := by decide +kernel
theorem dX2_readThing_54 : decode cX2_readThing 54 = .ok (.ifCond .eq 7, 3) := by decide +kernel
theorem dX2_readThing_57 : decode cX2_readThing 57 = .ok (.aload_n 0, 1) := by decide +kernel
theorem dX2_readThing_58 : decode cX2_readThing 58 = .ok (.invokevirtual 66, 3) := by decide +kernel
theorem dX2_readThing_61 : decode cX2_readThing 61 = .ok (.aload_n 0, 1) := by decide +kernel
theorem dX2_readThing_62 : decode cX2_readThing 62 = .ok (.getfield 26, 3) := by decide +kernel
theorem dX2_readThing_65 : decode cX2_readThing 65 = .ok (.getfield 130, 3) := by decide +kernel
theorem dX2_readThing_68 : decode cX2_readThing 68 = .ok (.istore 5, 2) := by decide +kernel
theorem dX2_readThing_70 : decode cX2_readThing 70 = .ok (.aload_n 0, 1) := by decide +kernel
theorem dX2_readThing_71 : decode cX2_readThing 71 = .ok (.getfield 63, 3) := by decide +kernel
theorem dX2_readThing_74 : decode cX2_readThing 74 = .ok (.ifCond .ne 81, 3) := by decide +kernel
theorem dX2_readThing_77 : decode cX2_readThing 77 = .ok (.iload 5, 2) := by decide +kernel
theorem dX2_readThing_79 : decode cX2_readThing 79 = .ok (.bipush 10, 2) := by decide +kernel
theorem dX2_readThing_81 : decode cX2_readThing 81 = .ok (.if_icmp .ge 74, 3) := by decide +kernel
theorem dX2_readThing_84 : decode cX2_readThing 84 = .ok (.aload_n 0, 1) := by decide +kernel
theorem dX2_readThing_85 : decode cX2_readThing 85 = .ok (.getfield 26, 3) := by decide +kernel
theorem dX2_readThing_88 : decode cX2_readThing 88 = .ok (.getfield 142, 3) := by decide +kernel
theorem dX2_readThing_91 : decode cX2_readThing 91 = .ok (.iload 5, 2) := by decide +kernel
theorem dX2_readThing_93 : decode cX2_readThing 93 = .ok (.iload_n 1, 1) := by decide +kernel
theorem dX2_readThing_94 : decode cX2_readThing 94 = .ok (.iastore, 1) := by decide +kernel
theorem dX2_readThing_95 : decode cX2_readThing 95 = .ok (.aload_n 0, 1) := by decide +kernel
theorem dX2_readThing_96 : decode cX2_readThing 96 = .ok (.getfield 26, 3) := by decide +kernel
theorem dX2_readThing_99 : decode cX2_readThing 99 = .ok (.getfield 145, 3) := by decide +kernel
theorem dX2_readThing_102 : decode cX2_readThing 102 = .ok (.iload 5, 2) := by decide +kernel
theorem dX2_readThing_104 : decode cX2_readThing 104 = .ok (.iload_n 2, 1) := by decide +kernel
theorem dX2_readThing_105 : decode cX2_readThing 105 = .ok (.iastore, 1) := by decide +kernel
theorem dX2_readThing_106 : decode cX2_readThing 106 = .ok (.aload_n 0, 1) := by decide +kernel
theorem dX2_readThing_107 : decode cX2_readThing 107 = .ok (.getfield 26, 3) := by decide +kernel
theorem dX2_readThing_110 : decode cX2_readThing 110 = .ok (.getfield 148, 3) := by decide +kernel
theorem dX2_readThing_113 : decode cX2_readThing 113 = .ok (.iload 5, 2) := by decide +kernel
theorem dX2_readThing_115 : decode cX2_readThing 115 = .ok (.iload_n 3, 1) := by decide +kernel
theorem dX2_readThing_116 : decode cX2_readThing 116 = .ok (.iastore, 1) := by decide +kernel
theorem dX2_readThing_117 : decode cX2_readThing 117 = .ok (.aload_n 0, 1) := by decide +kernel
theorem dX2_readThing_118 : decode cX2_readThing 118 = .ok (.getfield 26, 3) := by decide +kernel
theorem dX2_readThing_121 : decode cX2_readThing 121 = .ok (.dup, 1) := by decide +kernel
theorem dX2_readThing_122 : decode cX2_readThing 122 = .ok (.getfield 151, 3) := by decide +kernel
theorem dX2_readThing_125 : decode cX2_readThing 125 = .ok (.iload 4, 2) := by decide +kernel
theorem dX2_readThing_127 : decode cX2_readThing 127 = .ok (.ifCond .eq 10, 3) := by decide +kernel
theorem dX2_readThing_130 : decode cX2_readThing 130 = .ok (.iconst 1, 1) := by decide +kernel
theorem dX2_readThing_131 : decode cX2_readThing 131 = .ok (.iload 5, 2) := by decide +kernel
theorem dX2_readThing_133 : decode cX2_readThing 133 = .ok (.ishl, 1) := by decide +kernel
theorem dX2_readThing_134 : decode cX2_readThing 134 = .ok (.goto 4, 3) := by decide +kernel
theorem dX2_readThing_137 : decode cX2_readThing 137 = .ok (.iconst 0, 1) := by decide +kernel
theorem dX2_readThing_138 : decode cX2_readThing 138 = .ok (.ior, 1) := by decide +kernel
theorem dX2_readThing_139 : decode cX2_readThing 139 = .ok (.putfield 151, 3) := by decide +kernel
theorem dX2_readThing_142 : decode cX2_readThing 142 = .ok (.aload_n 0, 1) := by decide +kernel
theorem dX2_readThing_143 : decode cX2_readThing 143 = .ok (.getfield 26, 3) := by decide +kernel
theorem dX2_readThing_146 : decode cX2_readThing 146 = .ok (.dup, 1) := by decide +kernel
theorem dX2_readThing_147 : decode cX2_readThing 147 = .ok (.getfield 130, 3) := by decide +kernel
theorem dX2_readThing_150 : decode cX2_readThing 150 = .ok (.iconst 1, 1) := by decide +kernel
theorem dX2_readThing_151 : decode cX2_readThing 151 = .ok (.iadd, 1) := by decide +kernel
theorem dX2_readThing_152 : decode cX2_readThing 152 = .ok (.putfield 130, 3) := by decide +kernel
theorem dX2_readThing_155 : decode cX2_readThing 155 = .ok (.return_, 1) := by decide +kernel
set_option maxRecDepth 20000 in
theorem ggX2_readWish_X2_newName : GoodIn wsX2_readWish wsX2_newName := goodIn_r _ [14, 15, 1, 16, 2, 17, 18, 5, 3, 19, 20, 21, 13, 22, 4, 23, 24, 25, 26, 27, 28, 29, 30, 31, 32, 33, 34, 35, 36, 37, 38, 39, 40, 41, 42, 43, 44, 45, 46, 47, 48, 49, 50, 51, 52, 53, 54, 55, 56, 76, 77, 78, 79, 80, 81, 82, 83, 84, 85, 86, 87, 88, 89, 90, 91, 92, 93, 94, 95, 96, 97, 98, 99, 100, 101, 102, 103, 104, 105, 106] rfl (by decide +kernel)
set_option maxRecDepth 20000 in
theorem gX2_readWish_X2_newName : GoodIn wsX2_readWish (wsV RX2 139 RX2 yX2_newName wsX2_newName) := goodIn_app (goodIn_of _ (by decide +kernel)) ggX2_readWish_X2_newName
set_option maxRecDepth 20000 in
theorem ggX2_readWish_X2_pass : GoodIn wsX2_readWish wsX2_pass := goodIn_r _ [60, 1, 16, 19, 20, 21, 13, 22, 4, 23, 27, 28, 29, 30, 31, 32, 33, 34, 35, 36, 37, 38, 39, 40, 41, 42, 43, 44, 15, 45, 46, 47, 48, 49, 50, 51, 52, 53, 54, 55, 56, 76, 77, 78, 79, 80, 81, 82, 83, 84, 85, 86] rfl (by decide +kernel)
set_option maxRecDepth 20000 in
theorem gX2_readWish_X2_pass : GoodIn wsX2_readWish (wsV RX2 127 RX2 yX2_pass wsX2_pass) := goodIn_app (goodIn_of _ (by decide +kernel)) ggX2_readWish_X2_pass
set_option maxRecDepth 20000 in
theorem ggX2_readWish_X2_numberFrom : GoodIn wsX2_readWish wsX2_numberFrom := goodIn_r _ [64, 15, 1, 16, 19, 20, 21, 13, 22, 4, 23, 27, 28, 29, 30, 31, 32, 33, 34, 35, 36, 37, 38, 39, 40, 41, 42, 43, 44, 45, 46, 47, 48, 49, 50, 51, 52, 53, 54, 55, 56, 76, 77, 78, 79, 80, 81, 82, 83, 84, 85, 86] rfl (by decide +kernel)
set_option maxRecDepth 20000 in
theorem gX2_readWish_X2_numberFrom : GoodIn wsX2_readWish (wsV RX2 102 RX2 yX2_numberFrom wsX2_numberFrom) := goodIn_app (goodIn_of _ (by decide +kernel)) ggX2_readWish_X2_numberFrom
set_option maxRecDepth 20000 in
theorem ggX2_readWish_X2_askedThing : GoodIn wsX2_readWish wsX2_askedThing := goodIn_r _ [68, 1, 16, 15, 2, 17, 18, 19, 20, 21, 13, 22, 4, 23, 24, 25, 26, 27, 28, 29, 30, 31, 32, 33, 34, 35, 36, 37, 38, 39, 40, 41, 42, 43, 44, 45, 46, 47, 48, 49, 50, 51, 52, 53, 54, 55, 56, 76, 77, 78, 79, 80, 81, 82, 83, 84, 85, 86, 87, 88, 89, 90, 91, 92, 93, 94, 95, 96, 97, 98, 99, 100, 101, 102, 103, 104, 105, 106] rfl (by decide +kernel)
set_option maxRecDepth 20000 in
theorem gX2_readWish_X2_askedThing : GoodIn wsX2_readWish (wsV RX2 95 RX2 yX2_askedThing wsX2_askedThing) := goodIn_app (goodIn_of _ (by decide +kernel)) ggX2_readWish_X2_askedThing
set_option maxRecDepth 20000 in
theorem ggX2_readWish_X2_step : GoodIn wsX2_readWish wsX2_step := goodIn_r _ [30, 4, 31, 1, 32, 33, 16, 34, 35, 13, 36, 37, 38, 39, 40, 41, 42, 43, 44, 15, 45, 46, 47, 48, 49, 19, 20, 21, 22, 23, 50, 51, 52, 53, 54, 55, 56, 76, 77, 78, 79, 80, 81, 82, 83, 84, 85, 86] rfl (by decide +kernel)
set_option maxRecDepth 20000 in
theorem gX2_readWish_X2_step : GoodIn wsX2_readWish (wsV RX2 66 RX2 yX2_step wsX2_step) := goodIn_app (goodIn_of _ (by decide +kernel)) ggX2_readWish_X2_step
set_option maxRecDepth 20000 in
theorem ggX2_readWish_X2_thingRow : GoodIn wsX2_readWish wsX2_thingRow := goodIn_r _ [72, 1, 65, 66, 67, 13, 68, 16, 15, 2, 17, 18, 19, 20, 21, 22, 4, 23, 24, 25, 26, 27, 28, 29, 30, 31, 32, 33, 34, 35, 36, 37, 38, 39, 40, 41, 42, 43, 44, 45, 46, 47, 48, 49, 50, 51, 52, 53, 54, 55, 56, 73, 74, 75, 76, 77, 78, 79, 80, 81, 82, 83, 84, 85, 86, 87, 88, 89, 90, 91, 92, 93, 94, 95, 96, 97, 98, 99, 100, 101, 102, 103, 104, 105, 106] rfl (by decide +kernel)
set_option maxRecDepth 20000 in
theorem gX2_readWish_X2_thingRow : GoodIn wsX2_readWish (wsV RX2 154 RX2 yX2_thingRow wsX2_thingRow) := goodIn_app (goodIn_of _ (by decide +kernel)) ggX2_readWish_X2_thingRow
set_option maxRecDepth 20000 in
theorem ggX2_readWish_X2_bitOf : GoodIn wsX2_readWish wsX2_bitOf := goodIn_r _ [75] rfl (by decide +kernel)
set_option maxRecDepth 20000 in
theorem gX2_readWish_X2_bitOf : GoodIn wsX2_readWish (va_wsS RX2 99 yX2_bitOf wsX2_bitOf) := goodIn_app (goodIn_of _ (by decide +kernel)) ggX2_readWish_X2_bitOf
theorem dX2_readWish_0 : decode cX2_readWish 0 = .ok (.aload_n 0, 1) := by decide +kernel
theorem dX2_readWish_1 : decode cX2_readWish 1 = .ok (.invokevirtual 139, 3) := by decide +kernel
theorem dX2_readWish_4 : decode cX2_readWish 4 = .ok (.istore_n 1, 1) := by decide +kernel
theorem dX2_readWish_5 : decode cX2_readWish 5 = .ok (.aload_n 0, 1) := by decide +kernel
theorem dX2_readWish_6 : decode cX2_readWish 6 = .ok (.sipush 305, 3) := by decide +kernel
theorem dX2_readWish_9 : decode cX2_readWish 9 = .ok (.invokevirtual 127, 3) := by decide +kernel
theorem dX2_readWish_12 : decode cX2_readWish 12 = .ok (.aload_n 0, 1) := by decide +kernel
theorem dX2_readWish_13 : decode cX2_readWish 13 = .ok (.iconst 0, 1) := by decide +kernel
theorem dX2_readWish_14 : decode cX2_readWish 14 = .ok (.bipush 9, 2) := by decide +kernel
theorem dX2_readWish_16 : decode cX2_readWish 16 = .ok (.invokevirtual 102, 3) := by decide +kernel
theorem dX2_readWish_19 : decode cX2_readWish 19 = .ok (.istore_n 2, 1) := by decide +kernel
theorem dX2_readWish_20 : decode cX2_readWish 20 = .ok (.aload_n 0, 1) := by decide +kernel
theorem dX2_readWish_21 : decode cX2_readWish 21 = .ok (.sipush 306, 3) := by decide +kernel
theorem dX2_readWish_24 : decode cX2_readWish 24 = .ok (.invokevirtual 127, 3) := by decide +kernel
theorem dX2_readWish_27 : decode cX2_readWish 27 = .ok (.aload_n 0, 1) := by decide +kernel
theorem dX2_readWish_28 : decode cX2_readWish 28 = .ok (.iconst 0, 1) := by decide +kernel
theorem dX2_readWish_29 : decode cX2_readWish 29 = .ok (.invokevirtual 95, 3) := by decide +kernel
theorem dX2_readWish_32 : decode cX2_readWish 32 = .ok (.istore_n 3, 1) := by decide +kernel
theorem dX2_readWish_33 : decode cX2_readWish 33 = .ok (.iconst 0, 1) := by decide +kernel
theorem dX2_readWish_34 : decode cX2_readWish 34 = .ok (.istore 4, 2) := by decide +kernel
theorem dX2_readWish_36 : decode cX2_readWish 36 = .ok (.iconst 0, 1) := by decide +kernel
theorem dX2_readWish_37 : decode cX2_readWish 37 = .ok (.istore 5, 2) := by decide +kernel
theorem dX2_readWish_39 : decode cX2_readWish 39 = .ok (.aload_n 0, 1) := by decide +kernel
theorem dX2_readWish_40 : decode cX2_readWish 40 = .ok (.getfield 15, 3) := by decide +kernel
theorem dX2_readWish_43 : decode cX2_readWish 43 = .ok (.sipush 307, 3) := by decide +kernel
theorem dX2_readWish_46 : decode cX2_readWish 46 = .ok (.if_icmp .ne 14, 3) := by decide +kernel
theorem dX2_readWish_49 : decode cX2_readWish 49 = .ok (.aload_n 0, 1) := by decide +kernel
theorem dX2_readWish_50 : decode cX2_readWish 50 = .ok (.invokevirtual 66, 3) := by decide +kernel
theorem dX2_readWish_53 : decode cX2_readWish 53 = .ok (.aload_n 0, 1) := by decide +kernel
theorem dX2_readWish_54 : decode cX2_readWish 54 = .ok (.iconst 0, 1) := by decide +kernel
theorem dX2_readWish_55 : decode cX2_readWish 55 = .ok (.invokevirtual 154, 3) := by decide +kernel
theorem dX2_readWish_58 : decode cX2_readWish 58 = .ok (.istore 4, 2) := by decide +kernel
theorem dX2_readWish_60 : decode cX2_readWish 60 = .ok (.aload_n 0, 1) := by decide +kernel
theorem dX2_readWish_61 : decode cX2_readWish 61 = .ok (.getfield 15, 3) := by decide +kernel
theorem dX2_readWish_64 : decode cX2_readWish 64 = .ok (.sipush 308, 3) := by decide +kernel
theorem dX2_readWish_67 : decode cX2_readWish 67 = .ok (.if_icmp .ne 17, 3) := by decide +kernel
theorem dX2_readWish_70 : decode cX2_readWish 70 = .ok (.aload_n 0, 1) := by decide +kernel
theorem dX2_readWish_71 : decode cX2_readWish 71 = .ok (.invokevirtual 66, 3) := by decide +kernel
theorem dX2_readWish_74 : decode cX2_readWish 74 = .ok (.aload_n 0, 1) := by decide +kernel
theorem dX2_readWish_75 : decode cX2_readWish 75 = .ok (.iload_n 3, 1) := by decide +kernel
theorem dX2_readWish_76 : decode cX2_readWish 76 = .ok (.invokestatic 99, 3) := by decide +kernel
theorem dX2_readWish_79 : decode cX2_readWish 79 = .ok (.invokevirtual 154, 3) := by decide +kernel
theorem dX2_readWish_82 : decode cX2_readWish 82 = .ok (.istore 5, 2) := by decide +kernel
theorem dX2_readWish_84 : decode cX2_readWish 84 = .ok (.aload_n 0, 1) := by decide +kernel
theorem dX2_readWish_85 : decode cX2_readWish 85 = .ok (.getfield 26, 3) := by decide +kernel
theorem dX2_readWish_88 : decode cX2_readWish 88 = .ok (.getfield 133, 3) := by decide +kernel
theorem dX2_readWish_91 : decode cX2_readWish 91 = .ok (.istore 6, 2) := by decide +kernel
theorem dX2_readWish_93 : decode cX2_readWish 93 = .ok (.aload_n 0, 1) := by decide +kernel
theorem dX2_readWish_94 : decode cX2_readWish 94 = .ok (.getfield 63, 3) := by decide +kernel
theorem dX2_readWish_97 : decode cX2_readWish 97 = .ok (.ifCond .ne 80, 3) := by decide +kernel
theorem dX2_readWish_100 : decode cX2_readWish 100 = .ok (.iload 6, 2) := by decide +kernel
theorem dX2_readWish_102 : decode cX2_readWish 102 = .ok (.bipush 12, 2) := by decide +kernel
theorem dX2_readWish_104 : decode cX2_readWish 104 = .ok (.if_icmp .ge 73, 3) := by decide +kernel
theorem dX2_readWish_107 : decode cX2_readWish 107 = .ok (.aload_n 0, 1) := by decide +kernel
theorem dX2_readWish_108 : decode cX2_readWish 108 = .ok (.getfield 26, 3) := by decide +kernel
theorem dX2_readWish_111 : decode cX2_readWish 111 = .ok (.getfield 157, 3) := by decide +kernel
theorem dX2_readWish_114 : decode cX2_readWish 114 = .ok (.iload 6, 2) := by decide +kernel
theorem dX2_readWish_116 : decode cX2_readWish 116 = .ok (.iload_n 1, 1) := by decide +kernel
theorem dX2_readWish_117 : decode cX2_readWish 117 = .ok (.iastore, 1) := by decide +kernel
theorem dX2_readWish_118 : decode cX2_readWish 118 = .ok (.aload_n 0, 1) := by decide +kernel
theorem dX2_readWish_119 : decode cX2_readWish 119 = .ok (.getfield 26, 3) := by decide +kernel
theorem dX2_readWish_122 : decode cX2_readWish 122 = .ok (.getfield 160, 3) := by decide +kernel
theorem dX2_readWish_125 : decode cX2_readWish 125 = .ok (.iload 6, 2) := by decide +kernel
theorem dX2_readWish_127 : decode cX2_readWish 127 = .ok (.iload_n 2, 1) := by decide +kernel
theorem dX2_readWish_128 : decode cX2_readWish 128 = .ok (.iastore, 1) := by decide +kernel
theorem dX2_readWish_129 : decode cX2_readWish 129 = .ok (.aload_n 0, 1) := by decide +kernel
theorem dX2_readWish_130 : decode cX2_readWish 130 = .ok (.getfield 26, 3) := by decide +kernel
theorem dX2_readWish_133 : decode cX2_readWish 133 = .ok (.getfield 163, 3) := by decide +kernel
theorem dX2_readWish_136 : decode cX2_readWish 136 = .ok (.iload 6, 2) := by decide +kernel
theorem dX2_readWish_138 : decode cX2_readWish 138 = .ok (.iload_n 3, 1) := by decide +kernel
theorem dX2_readWish_139 : decode cX2_readWish 139 = .ok (.iastore, 1) := by decide +kernel
theorem dX2_readWish_140 : decode cX2_readWish 140 = .ok (.aload_n 0, 1) := by decide +kernel
theorem dX2_readWish_141 : decode cX2_readWish 141 = .ok (.getfield 26, 3) := by decide +kernel
theorem dX2_readWish_144 : decode cX2_readWish 144 = .ok (.getfield 166, 3) := by decide +kernel
theorem dX2_readWish_147 : decode cX2_readWish 147 = .ok (.iload 6, 2) := by decide +kernel
theorem dX2_readWish_149 : decode cX2_readWish 149 = .ok (.iload 4, 2) := by decide +kernel
theorem dX2_readWish_151 : decode cX2_readWish 151 = .ok (.iastore, 1) := by decide +kernel
theorem dX2_readWish_152 : decode cX2_readWish 152 = .ok (.aload_n 0, 1) := by decide +kernel
theorem dX2_readWish_153 : decode cX2_readWish 153 = .ok (.getfield 26, 3) := by decide +kernel
theorem dX2_readWish_156 : decode cX2_readWish 156 = .ok (.getfield 169, 3) := by decide +kernel
theorem dX2_readWish_159 : decode cX2_readWish 159 = .ok (.iload 6, 2) := by decide +kernel
theorem dX2_readWish_161 : decode cX2_readWish 161 = .ok (.iload 5, 2) := by decide +kernel
theorem dX2_readWish_163 : decode cX2_readWish 163 = .ok (.iastore, 1) := by decide +kernel
theorem dX2_readWish_164 : decode cX2_readWish 164 = .ok (.aload_n 0, 1) := by decide +kernel
theorem dX2_readWish_165 : decode cX2_readWish 165 = .ok (.getfield 26, 3) := by decide +kernel
theorem dX2_readWish_168 : decode cX2_readWish 168 = .ok (.dup, 1) := by decide +kernel
theorem dX2_readWish_169 : decode cX2_readWish 169 = .ok (.getfield 133, 3) := by decide +kernel
theorem dX2_readWish_172 : decode cX2_readWish 172 = .ok (.iconst 1, 1) := by decide +kernel
theorem dX2_readWish_173 : decode cX2_readWish 173 = .ok (.iadd, 1) := by decide +kernel
theorem dX2_readWish_174 : decode cX2_readWish 174 = .ok (.putfield 133, 3) := by decide +kernel
theorem dX2_readWish_177 : decode cX2_readWish 177 = .ok (.return_, 1) := by decide +kernel
set_option maxRecDepth 20000 in
theorem ggX2_thingRow_X2_askedThing : GoodIn wsX2_thingRow wsX2_askedThing := goodIn_r _ [6, 1, 7, 8, 9, 10, 11, 12, 13, 14, 5, 15, 16, 17, 18, 19, 20, 21, 22, 23, 24, 25, 26, 27, 28, 29, 30, 31, 32, 33, 34, 35, 36, 37, 38, 39, 40, 41, 42, 43, 44, 45, 46, 47, 48, 49, 50, 54, 55, 56, 57, 58, 59, 60, 61, 62, 63, 64, 65, 66, 67, 68, 69, 70, 71, 72, 73, 74, 75, 76, 77, 78, 79, 80, 81, 82, 83, 84] rfl (by decide +kernel)
set_option maxRecDepth 20000 in
theorem gX2_thingRow_X2_askedThing : GoodIn wsX2_thingRow (wsV RX2 95 RX2 yX2_askedThing wsX2_askedThing) := goodIn_app (goodIn_of _ (by decide +kernel)) ggX2_thingRow_X2_askedThing
set_option maxRecDepth 20000 in
theorem ggX2_thingRow_X2_bitOf : GoodIn wsX2_thingRow wsX2_bitOf := goodIn_r _ [53] rfl (by decide +kernel)
set_option maxRecDepth 20000 in
theorem gX2_thingRow_X2_bitOf : GoodIn wsX2_thingRow (va_wsS RX2 99 yX2_bitOf wsX2_bitOf) := goodIn_app (goodIn_of _ (by decide +kernel)) ggX2_thingRow_X2_bitOf
theorem dX2_thingRow_0 : decode cX2_thingRow 0 = .ok (.aload_n 0, 1) := by decide +kernel
theorem dX2_thingRow_1 : decode cX2_thingRow 1 = .ok (.iload_n 1, 1) := by decide +kernel
theorem dX2_thingRow_2 : decode cX2_thingRow 2 = .ok (.invokevirtual 95, 3) := by decide +kernel
theorem dX2_thingRow_5 : decode cX2_thingRow 5 = .ok (.invokestatic 99, 3) := by decide +kernel
theorem dX2_thingRow_8 : decode cX2_thingRow 8 = .ok (.istore_n 2, 1) := by decide +kernel
theorem dX2_thingRow_9 : decode cX2_thingRow 9 = .ok (.iconst 0, 1) := by decide +kernel
theorem dX2_thingRow_10 : decode cX2_thingRow 10 = .ok (.istore_n 3, 1) := by decide +kernel
theorem dX2_thingRow_11 : decode cX2_thingRow 11 = .ok (.iload_n 3, 1) := by decide +kernel
theorem dX2_thingRow_12 : decode cX2_thingRow 12 = .ok (.bipush 10, 2) := by decide +kernel
theorem dX2_thingRow_14 : decode cX2_thingRow 14 = .ok (.if_icmp .ge 32, 3) := by decide +kernel
theorem dX2_thingRow_17 : decode cX2_thingRow 17 = .ok (.aload_n 0, 1) := by decide +kernel
theorem dX2_thingRow_18 : decode cX2_thingRow 18 = .ok (.getfield 15, 3) := by decide +kernel
theorem dX2_thingRow_21 : decode cX2_thingRow 21 = .ok (.sipush 258, 3) := by decide +kernel
theorem dX2_thingRow_24 : decode cX2_thingRow 24 = .ok (.if_icmp .ne 22, 3) := by decide +kernel
theorem dX2_thingRow_27 : decode cX2_thingRow 27 = .ok (.iload_n 2, 1) := by decide +kernel
theorem dX2_thingRow_28 : decode cX2_thingRow 28 = .ok (.aload_n 0, 1) := by decide +kernel
theorem dX2_thingRow_29 : decode cX2_thingRow 29 = .ok (.iload_n 2, 1) := by decide +kernel
theorem dX2_thingRow_30 : decode cX2_thingRow 30 = .ok (.iload_n 1, 1) := by decide +kernel
theorem dX2_thingRow_31 : decode cX2_thingRow 31 = .ok (.ior, 1) := by decide +kernel
theorem dX2_thingRow_32 : decode cX2_thingRow 32 = .ok (.invokevirtual 95, 3) := by decide +kernel
theorem dX2_thingRow_35 : decode cX2_thingRow 35 = .ok (.invokestatic 99, 3) := by decide +kernel
theorem dX2_thingRow_38 : decode cX2_thingRow 38 = .ok (.ior, 1) := by decide +kernel
theorem dX2_thingRow_39 : decode cX2_thingRow 39 = .ok (.istore_n 2, 1) := by decide +kernel
theorem dX2_thingRow_40 : decode cX2_thingRow 40 = .ok (.iinc 3 1, 3) := by decide +kernel
theorem dX2_thingRow_43 : decode cX2_thingRow 43 = .ok (.goto (-32), 3) := by decide +kernel
theorem dX2_thingRow_46 : decode cX2_thingRow 46 = .ok (.iload_n 2, 1) := by decide +kernel
theorem dX2_thingRow_47 : decode cX2_thingRow 47 = .ok (.ireturn, 1) := by decide +kernel
set_option maxRecDepth 20000 in
theorem ggX2_askedThing_X2_blame : GoodIn wsX2_askedThing wsX2_blame := goodIn_r _ [11, 12, 13, 1, 47, 48, 49, 50, 51, 52, 53, 54, 55, 56, 57] rfl (by decide +kernel)
set_option maxRecDepth 20000 in
theorem gX2_askedThing_X2_blame : GoodIn wsX2_askedThing (wsV RX2 76 RX2 yX2_blame wsX2_blame) := goodIn_app (goodIn_of _ (by decide +kernel)) ggX2_askedThing_X2_blame
set_option maxRecDepth 20000 in
theorem ggX2_askedThing_X2_indexOf : GoodIn wsX2_askedThing wsX2_indexOf := goodIn_r _ [16] rfl (by decide +kernel)
set_option maxRecDepth 20000 in
theorem gX2_askedThing_X2_indexOf : GoodIn wsX2_askedThing (va_wsS RX2 175 yX2_indexOf wsX2_indexOf) := goodIn_app (goodIn_of _ (by decide +kernel)) ggX2_askedThing_X2_indexOf
set_option maxRecDepth 20000 in
theorem ggX2_askedThing_X2_step : GoodIn wsX2_askedThing wsX2_step := goodIn_r _ [20, 12, 21, 1, 22, 23, 2, 24, 25, 10, 26, 27, 28, 29, 30, 31, 32, 33, 34, 3, 35, 36, 37, 38, 39, 7, 8, 9, 11, 13, 40, 41, 42, 43, 44, 45, 46, 47, 48, 49, 50, 51, 52, 53, 54, 55, 56, 57] rfl (by decide +kernel)
set_option maxRecDepth 20000 in
theorem gX2_askedThing_X2_step : GoodIn wsX2_askedThing (wsV RX2 66 RX2 yX2_step wsX2_step) := goodIn_app (goodIn_of _ (by decide +kernel)) ggX2_askedThing_X2_step
theorem dX2_askedThing_0 : decode cX2_askedThing 0 = .ok (.aload_n 0, 1) := by decide +kernel
theorem dX2_askedThing_1 : decode cX2_askedThing 1 = .ok (.getfield 15, 3) := by decide +kernel
theorem dX2_askedThing_4 : decode cX2_askedThing 4 = .ok (.sipush 258, 3) := by decide +kernel
theorem dX2_askedThing_7 : decode cX2_askedThing 7 = .ok (.if_icmp .eq 14, 3) := by decide +kernel
theorem dX2_askedThing_10 : decode cX2_askedThing 10 = .ok (.aload_n 0, 1) := by decide +kernel
theorem dX2_askedThing_11 : decode cX2_askedThing 11 = .ok (.iconst 1, 1) := by decide +kernel
theorem dX2_askedThing_12 : decode cX2_askedThing 12 = .ok (.aload_n 0, 1) := by decide +kernel
theorem dX2_askedThing_13 : decode cX2_askedThing 13 = .ok (.getfield 73, 3) := by decide +kernel
theorem dX2_askedThing_16 : decode cX2_askedThing 16 = .ok (.invokevirtual 76, 3) := by decide +kernel
theorem dX2_askedThing_19 : decode cX2_askedThing 19 = .ok (.iconst (-1), 1) := by decide +kernel
theorem dX2_askedThing_20 : decode cX2_askedThing 20 = .ok (.ireturn, 1) := by decide +kernel
theorem dX2_askedThing_21 : decode cX2_askedThing 21 = .ok (.aload_n 0, 1) := by decide +kernel
theorem dX2_askedThing_22 : decode cX2_askedThing 22 = .ok (.getfield 172, 3) := by decide +kernel
theorem dX2_askedThing_25 : decode cX2_askedThing 25 = .ok (.aload_n 0, 1) := by decide +kernel
theorem dX2_askedThing_26 : decode cX2_askedThing 26 = .ok (.getfield 26, 3) := by decide +kernel
theorem dX2_askedThing_29 : decode cX2_askedThing 29 = .ok (.getfield 142, 3) := by decide +kernel
theorem dX2_askedThing_32 : decode cX2_askedThing 32 = .ok (.aload_n 0, 1) := by decide +kernel
theorem dX2_askedThing_33 : decode cX2_askedThing 33 = .ok (.getfield 26, 3) := by decide +kernel
theorem dX2_askedThing_36 : decode cX2_askedThing 36 = .ok (.getfield 130, 3) := by decide +kernel
theorem dX2_askedThing_39 : decode cX2_askedThing 39 = .ok (.invokestatic 175, 3) := by decide +kernel
theorem dX2_askedThing_42 : decode cX2_askedThing 42 = .ok (.istore_n 2, 1) := by decide +kernel
theorem dX2_askedThing_43 : decode cX2_askedThing 43 = .ok (.iload_n 2, 1) := by decide +kernel
theorem dX2_askedThing_44 : decode cX2_askedThing 44 = .ok (.ifCond .lt 12, 3) := by decide +kernel
theorem dX2_askedThing_47 : decode cX2_askedThing 47 = .ok (.iload_n 1, 1) := by decide +kernel
theorem dX2_askedThing_48 : decode cX2_askedThing 48 = .ok (.iload_n 2, 1) := by decide +kernel
theorem dX2_askedThing_49 : decode cX2_askedThing 49 = .ok (.ishr, 1) := by decide +kernel
theorem dX2_askedThing_50 : decode cX2_askedThing 50 = .ok (.iconst 1, 1) := by decide +kernel
theorem dX2_askedThing_51 : decode cX2_askedThing 51 = .ok (.iand, 1) := by decide +kernel
theorem dX2_askedThing_52 : decode cX2_askedThing 52 = .ok (.iconst 1, 1) := by decide +kernel
theorem dX2_askedThing_53 : decode cX2_askedThing 53 = .ok (.if_icmp .ne 14, 3) := by decide +kernel
theorem dX2_askedThing_56 : decode cX2_askedThing 56 = .ok (.aload_n 0, 1) := by decide +kernel
theorem dX2_askedThing_57 : decode cX2_askedThing 57 = .ok (.iconst 3, 1) := by decide +kernel
theorem dX2_askedThing_58 : decode cX2_askedThing 58 = .ok (.aload_n 0, 1) := by decide +kernel
theorem dX2_askedThing_59 : decode cX2_askedThing 59 = .ok (.getfield 73, 3) := by decide +kernel
theorem dX2_askedThing_62 : decode cX2_askedThing 62 = .ok (.invokevirtual 76, 3) := by decide +kernel
theorem dX2_askedThing_65 : decode cX2_askedThing 65 = .ok (.iconst (-1), 1) := by decide +kernel
theorem dX2_askedThing_66 : decode cX2_askedThing 66 = .ok (.ireturn, 1) := by decide +kernel
theorem dX2_askedThing_67 : decode cX2_askedThing 67 = .ok (.aload_n 0, 1) := by decide +kernel
theorem dX2_askedThing_68 : decode cX2_askedThing 68 = .ok (.invokevirtual 66, 3) := by decide +kernel
theorem dX2_askedThing_71 : decode cX2_askedThing 71 = .ok (.iload_n 2, 1) := by decide +kernel
theorem dX2_askedThing_72 : decode cX2_askedThing 72 = .ok (.ireturn, 1) := by decide +kernel
theorem dX2_bitOf_0 : decode cX2_bitOf 0 = .ok (.iload_n 0, 1) := by decide +kernel
theorem dX2_bitOf_1 : decode cX2_bitOf 1 = .ok (.ifCond .ge 7, 3) := by decide +kernel
theorem dX2_bitOf_4 : decode cX2_bitOf 4 = .ok (.iconst 0, 1) := by decide +kernel
theorem dX2_bitOf_5 : decode cX2_bitOf 5 = .ok (.goto 6, 3) := by decide +kernel
theorem dX2_bitOf_8 : decode cX2_bitOf 8 = .ok (.iconst 1, 1) := by decide +kernel
theorem dX2_bitOf_9 : decode cX2_bitOf 9 = .ok (.iload_n 0, 1) := by decide +kernel
theorem dX2_bitOf_10 : decode cX2_bitOf 10 = .ok (.ishl, 1) := by decide +kernel
theorem dX2_bitOf_11 : decode cX2_bitOf 11 = .ok (.ireturn, 1) := by decide +kernel
set_option maxRecDepth 20000 in
theorem ggX2_newName_X2_blame : GoodIn wsX2_newName wsX2_blame := goodIn_r _ [13, 14, 15, 2, 49, 50, 51, 52, 53, 54, 55, 56, 57, 58, 59] rfl (by decide +kernel)
set_option maxRecDepth 20000 in
theorem gX2_newName_X2_blame : GoodIn wsX2_newName (wsV RX2 76 RX2 yX2_blame wsX2_blame) := goodIn_app (goodIn_of _ (by decide +kernel)) ggX2_newName_X2_blame
set_option maxRecDepth 20000 in
theorem ggX2_newName_X2_indexOf : GoodIn wsX2_newName wsX2_indexOf := goodIn_r _ [18] rfl (by decide +kernel)
set_option maxRecDepth 20000 in
theorem gX2_newName_X2_indexOf : GoodIn wsX2_newName (va_wsS RX2 175 yX2_indexOf wsX2_indexOf) := goodIn_app (goodIn_of _ (by decide +kernel)) ggX2_newName_X2_indexOf
set_option maxRecDepth 20000 in
theorem ggX2_newName_X2_step : GoodIn wsX2_newName wsX2_step := goodIn_r _ [22, 14, 23, 2, 24, 25, 3, 26, 27, 12, 28, 29, 30, 31, 32, 33, 34, 35, 36, 1, 37, 38, 39, 40, 41, 9, 10, 11, 13, 15, 42, 43, 44, 45, 46, 47, 48, 49, 50, 51, 52, 53, 54, 55, 56, 57, 58, 59] rfl (by decide +kernel)
set_option maxRecDepth 20000 in
theorem gX2_newName_X2_step : GoodIn wsX2_newName (wsV RX2 66 RX2 yX2_step wsX2_step) := goodIn_app (goodIn_of _ (by decide +kernel)) ggX2_newName_X2_step
theorem dX2_newName_0 : decode cX2_newName 0 = .ok (.aload_n 0, 1) := by decide +kernel
theorem dX2_newName_1 : decode cX2_newName 1 = .ok (.getfield 172, 3) := by decide +kernel
theorem dX2_newName_4 : decode cX2_newName 4 = .ok (.istore_n 1, 1) := by decide +kernel
theorem dX2_newName_5 : decode cX2_newName 5 = .ok (.aload_n 0, 1) := by decide +kernel
theorem dX2_newName_6 : decode cX2_newName 6 = .ok (.getfield 15, 3) := by decide +kernel
theorem dX2_newName_9 : decode cX2_newName 9 = .ok (.sipush 258, 3) := by decide +kernel
theorem dX2_newName_12 : decode cX2_newName 12 = .ok (.if_icmp .eq 15, 3) := by decide +kernel
theorem dX2_newName_15 : decode cX2_newName 15 = .ok (.aload_n 0, 1) := by decide +kernel
theorem dX2_newName_16 : decode cX2_newName 16 = .ok (.iconst 1, 1) := by decide +kernel
theorem dX2_newName_17 : decode cX2_newName 17 = .ok (.aload_n 0, 1) := by decide +kernel
theorem dX2_newName_18 : decode cX2_newName 18 = .ok (.getfield 73, 3) := by decide +kernel
theorem dX2_newName_21 : decode cX2_newName 21 = .ok (.invokevirtual 76, 3) := by decide +kernel
theorem dX2_newName_24 : decode cX2_newName 24 = .ok (.goto 54, 3) := by decide +kernel
theorem dX2_newName_27 : decode cX2_newName 27 = .ok (.iload_n 1, 1) := by decide +kernel
theorem dX2_newName_28 : decode cX2_newName 28 = .ok (.aload_n 0, 1) := by decide +kernel
theorem dX2_newName_29 : decode cX2_newName 29 = .ok (.getfield 26, 3) := by decide +kernel
theorem dX2_newName_32 : decode cX2_newName 32 = .ok (.getfield 142, 3) := by decide +kernel
theorem dX2_newName_35 : decode cX2_newName 35 = .ok (.aload_n 0, 1) := by decide +kernel
theorem dX2_newName_36 : decode cX2_newName 36 = .ok (.getfield 26, 3) := by decide +kernel
theorem dX2_newName_39 : decode cX2_newName 39 = .ok (.getfield 130, 3) := by decide +kernel
theorem dX2_newName_42 : decode cX2_newName 42 = .ok (.invokestatic 175, 3) := by decide +kernel
theorem dX2_newName_45 : decode cX2_newName 45 = .ok (.ifCond .ge 24, 3) := by decide +kernel
theorem dX2_newName_48 : decode cX2_newName 48 = .ok (.iload_n 1, 1) := by decide +kernel
theorem dX2_newName_49 : decode cX2_newName 49 = .ok (.aload_n 0, 1) := by decide +kernel
theorem dX2_newName_50 : decode cX2_newName 50 = .ok (.getfield 26, 3) := by decide +kernel
theorem dX2_newName_53 : decode cX2_newName 53 = .ok (.getfield 157, 3) := by decide +kernel
theorem dX2_newName_56 : decode cX2_newName 56 = .ok (.aload_n 0, 1) := by decide +kernel
theorem dX2_newName_57 : decode cX2_newName 57 = .ok (.getfield 26, 3) := by decide +kernel
theorem dX2_newName_60 : decode cX2_newName 60 = .ok (.getfield 133, 3) := by decide +kernel
theorem dX2_newName_63 : decode cX2_newName 63 = .ok (.invokestatic 175, 3) := by decide +kernel
theorem dX2_newName_66 : decode cX2_newName 66 = .ok (.ifCond .lt 12, 3) := by decide +kernel
theorem dX2_newName_69 : decode cX2_newName 69 = .ok (.aload_n 0, 1) := by decide +kernel
theorem dX2_newName_70 : decode cX2_newName 70 = .ok (.iconst 2, 1) := by decide +kernel
theorem dX2_newName_71 : decode cX2_newName 71 = .ok (.aload_n 0, 1) := by decide +kernel
theorem dX2_newName_72 : decode cX2_newName 72 = .ok (.getfield 73, 3) := by decide +kernel
theorem dX2_newName_75 : decode cX2_newName 75 = .ok (.invokevirtual 76, 3) := by decide +kernel
theorem dX2_newName_78 : decode cX2_newName 78 = .ok (.aload_n 0, 1) := by decide +kernel
theorem dX2_newName_79 : decode cX2_newName 79 = .ok (.invokevirtual 66, 3) := by decide +kernel
theorem dX2_newName_82 : decode cX2_newName 82 = .ok (.iload_n 1, 1) := by decide +kernel
theorem dX2_newName_83 : decode cX2_newName 83 = .ok (.ireturn, 1) := by decide +kernel
theorem dX2_indexOf_0 : decode cX2_indexOf 0 = .ok (.iconst 0, 1) := by decide +kernel
theorem dX2_indexOf_1 : decode cX2_indexOf 1 = .ok (.istore_n 3, 1) := by decide +kernel
theorem dX2_indexOf_2 : decode cX2_indexOf 2 = .ok (.iload_n 3, 1) := by decide +kernel
theorem dX2_indexOf_3 : decode cX2_indexOf 3 = .ok (.iload_n 2, 1) := by decide +kernel
theorem dX2_indexOf_4 : decode cX2_indexOf 4 = .ok (.if_icmp .ge 24, 3) := by decide +kernel
theorem dX2_indexOf_7 : decode cX2_indexOf 7 = .ok (.iload_n 3, 1) := by decide +kernel
theorem dX2_indexOf_8 : decode cX2_indexOf 8 = .ok (.aload_n 1, 1) := by decide +kernel
theorem dX2_indexOf_9 : decode cX2_indexOf 9 = .ok (.arraylength, 1) := by decide +kernel
theorem dX2_indexOf_10 : decode cX2_indexOf 10 = .ok (.if_icmp .ge 18, 3) := by decide +kernel
theorem dX2_indexOf_13 : decode cX2_indexOf 13 = .ok (.aload_n 1, 1) := by decide +kernel
theorem dX2_indexOf_14 : decode cX2_indexOf 14 = .ok (.iload_n 3, 1) := by decide +kernel
theorem dX2_indexOf_15 : decode cX2_indexOf 15 = .ok (.iaload, 1) := by decide +kernel
theorem dX2_indexOf_16 : decode cX2_indexOf 16 = .ok (.iload_n 0, 1) := by decide +kernel
theorem dX2_indexOf_17 : decode cX2_indexOf 17 = .ok (.if_icmp .ne 5, 3) := by decide +kernel
theorem dX2_indexOf_20 : decode cX2_indexOf 20 = .ok (.iload_n 3, 1) := by decide +kernel
theorem dX2_indexOf_21 : decode cX2_indexOf 21 = .ok (.ireturn, 1) := by decide +kernel
theorem dX2_indexOf_22 : decode cX2_indexOf 22 = .ok (.iinc 3 1, 3) := by decide +kernel
theorem dX2_indexOf_25 : decode cX2_indexOf 25 = .ok (.goto (-23), 3) := by decide +kernel
theorem dX2_indexOf_28 : decode cX2_indexOf 28 = .ok (.iconst (-1), 1) := by decide +kernel
theorem dX2_indexOf_29 : decode cX2_indexOf 29 = .ok (.ireturn, 1) := by decide +kernel
set_option maxRecDepth 20000 in
theorem ggX2_numberFrom_X2_blame : GoodIn wsX2_numberFrom wsX2_blame := goodIn_r _ [8, 9, 10, 2, 41, 42, 43, 44, 45, 46, 47, 48, 49, 50, 51] rfl (by decide +kernel)
set_option maxRecDepth 20000 in
theorem gX2_numberFrom_X2_blame : GoodIn wsX2_numberFrom (wsV RX2 76 RX2 yX2_blame wsX2_blame) := goodIn_app (goodIn_of _ (by decide +kernel)) ggX2_numberFrom_X2_blame
set_option maxRecDepth 20000 in
theorem ggX2_numberFrom_X2_step : GoodIn wsX2_numberFrom wsX2_step := goodIn_r _ [14, 9, 15, 2, 16, 17, 3, 18, 19, 7, 20, 21, 22, 23, 24, 25, 26, 27, 28, 1, 29, 30, 31, 32, 33, 4, 5, 6, 8, 10, 34, 35, 36, 37, 38, 39, 40, 41, 42, 43, 44, 45, 46, 47, 48, 49, 50, 51] rfl (by decide +kernel)
set_option maxRecDepth 20000 in
theorem gX2_numberFrom_X2_step : GoodIn wsX2_numberFrom (wsV RX2 66 RX2 yX2_step wsX2_step) := goodIn_app (goodIn_of _ (by decide +kernel)) ggX2_numberFrom_X2_step
theorem dX2_numberFrom_0 : decode cX2_numberFrom 0 = .ok (.aload_n 0, 1) := by decide +kernel
theorem dX2_numberFrom_1 : decode cX2_numberFrom 1 = .ok (.getfield 172, 3) := by decide +kernel
theorem dX2_numberFrom_4 : decode cX2_numberFrom 4 = .ok (.istore_n 3, 1) := by decide +kernel
theorem dX2_numberFrom_5 : decode cX2_numberFrom 5 = .ok (.aload_n 0, 1) := by decide +kernel
theorem dX2_numberFrom_6 : decode cX2_numberFrom 6 = .ok (.getfield 15, 3) := by decide +kernel
theorem dX2_numberFrom_9 : decode cX2_numberFrom 9 = .ok (.sipush 257, 3) := by decide +kernel
theorem dX2_numberFrom_12 : decode cX2_numberFrom 12 = .ok (.if_icmp .eq 15, 3) := by decide +kernel
theorem dX2_numberFrom_15 : decode cX2_numberFrom 15 = .ok (.aload_n 0, 1) := by decide +kernel
theorem dX2_numberFrom_16 : decode cX2_numberFrom 16 = .ok (.iconst 1, 1) := by decide +kernel
theorem dX2_numberFrom_17 : decode cX2_numberFrom 17 = .ok (.aload_n 0, 1) := by decide +kernel
theorem dX2_numberFrom_18 : decode cX2_numberFrom 18 = .ok (.getfield 73, 3) := by decide +kernel
theorem dX2_numberFrom_21 : decode cX2_numberFrom 21 = .ok (.invokevirtual 76, 3) := by decide +kernel
theorem dX2_numberFrom_24 : decode cX2_numberFrom 24 = .ok (.goto 22, 3) := by decide +kernel
theorem dX2_numberFrom_27 : decode cX2_numberFrom 27 = .ok (.iload_n 3, 1) := by decide +kernel
theorem dX2_numberFrom_28 : decode cX2_numberFrom 28 = .ok (.iload_n 1, 1) := by decide +kernel
theorem dX2_numberFrom_29 : decode cX2_numberFrom 29 = .ok (.if_icmp .lt 8, 3) := by decide +kernel
theorem dX2_numberFrom_32 : decode cX2_numberFrom 32 = .ok (.iload_n 3, 1) := by decide +kernel
theorem dX2_numberFrom_33 : decode cX2_numberFrom 33 = .ok (.iload_n 2, 1) := by decide +kernel
theorem dX2_numberFrom_34 : decode cX2_numberFrom 34 = .ok (.if_icmp .le 12, 3) := by decide +kernel
theorem dX2_numberFrom_37 : decode cX2_numberFrom 37 = .ok (.aload_n 0, 1) := by decide +kernel
theorem dX2_numberFrom_38 : decode cX2_numberFrom 38 = .ok (.iconst 4, 1) := by decide +kernel
theorem dX2_numberFrom_39 : decode cX2_numberFrom 39 = .ok (.aload_n 0, 1) := by decide +kernel
theorem dX2_numberFrom_40 : decode cX2_numberFrom 40 = .ok (.getfield 73, 3) := by decide +kernel
theorem dX2_numberFrom_43 : decode cX2_numberFrom 43 = .ok (.invokevirtual 76, 3) := by decide +kernel
theorem dX2_numberFrom_46 : decode cX2_numberFrom 46 = .ok (.aload_n 0, 1) := by decide +kernel
theorem dX2_numberFrom_47 : decode cX2_numberFrom 47 = .ok (.invokevirtual 66, 3) := by decide +kernel
theorem dX2_numberFrom_50 : decode cX2_numberFrom 50 = .ok (.iload_n 3, 1) := by decide +kernel
theorem dX2_numberFrom_51 : decode cX2_numberFrom 51 = .ok (.ireturn, 1) := by decide +kernel
set_option maxRecDepth 20000 in
theorem ggX2_readTest_X2_readBoth : GoodIn wsX2_readTest wsX2_readBoth := goodIn_r _ [52, 1, 2, 3, 53, 54, 55, 7, 8, 9, 10, 11, 12, 13, 14, 15, 16, 17, 18, 19, 20, 21, 22, 23, 24, 25, 26, 27, 28, 29, 30, 31, 32, 33, 34, 35, 36, 37, 38, 39, 40, 41, 42, 43, 44, 45, 46, 47, 48, 49, 50, 51, 56, 57, 58, 59, 60, 61, 62, 63, 64, 65, 66, 67, 68, 69, 70, 71, 72, 73, 74, 75, 76, 77, 78, 79, 80, 81, 82, 83, 84, 85, 86, 87, 0, 4, 5, 6, 88, 89, 90, 91, 92, 93, 94, 95, 96, 97, 98, 99, 100, 101, 102, 103, 104, 105, 106, 107, 108, 109, 110, 111, 112, 113, 114, 115, 116, 117, 118] rfl (by decide +kernel)
set_option maxRecDepth 20000 in
theorem gX2_readTest_X2_readBoth : GoodIn wsX2_readTest (wsV RX2 179 RX2 yX2_readBoth wsX2_readBoth) := goodIn_app (goodIn_of _ (by decide +kernel)) ggX2_readTest_X2_readBoth
set_option maxRecDepth 20000 in
theorem ggX2_readTest_X2_step : GoodIn wsX2_readTest wsX2_step := goodIn_r _ [11, 12, 13, 2, 1, 14, 15, 16, 17, 7, 18, 19, 20, 21, 22, 23, 24, 25, 26, 27, 28, 29, 30, 31, 32, 33, 34, 35, 36, 37, 38, 39, 40, 41, 42, 43, 44, 88, 89, 90, 91, 92, 93, 94, 95, 96, 97, 98] rfl (by decide +kernel)
set_option maxRecDepth 20000 in
theorem gX2_readTest_X2_step : GoodIn wsX2_readTest (wsV RX2 66 RX2 yX2_step wsX2_step) := goodIn_app (goodIn_of _ (by decide +kernel)) ggX2_readTest_X2_step
set_option maxRecDepth 20000 in
theorem ggX2_readTest_X5_write : GoodIn wsX2_readTest wsX5_write := goodIn_r _ [49, 50, 51, 99, 100, 101, 102, 103, 104, 105, 106, 107, 108, 109, 110, 111, 112, 113, 114, 115, 116, 117, 118] rfl (by decide +kernel)
set_option maxRecDepth 20000 in
theorem gX2_readTest_X5_write : GoodIn wsX2_readTest (wsV RX2 182 RX5 yX5_write wsX5_write) := goodIn_app (goodIn_of _ (by decide +kernel)) ggX2_readTest_X5_write
theorem dX2_readTest_0 : decode cX2_readTest 0 = .ok (.aload_n 0, 1) := by decide +kernel
theorem dX2_readTest_1 : decode cX2_readTest 1 = .ok (.invokevirtual 179, 3) := by decide +kernel
theorem dX2_readTest_4 : decode cX2_readTest 4 = .ok (.iconst 0, 1) := by decide +kernel
theorem dX2_readTest_5 : decode cX2_readTest 5 = .ok (.istore_n 1, 1) := by decide +kernel
theorem dX2_readTest_6 : decode cX2_readTest 6 = .ok (.iload_n 1, 1) := by decide +kernel
theorem dX2_readTest_7 : decode cX2_readTest 7 = .ok (.aload_n 0, 1) := by decide +kernel
theorem dX2_readTest_8 : decode cX2_readTest 8 = .ok (.getfield 55, 3) := by decide +kernel
theorem dX2_readTest_11 : decode cX2_readTest 11 = .ok (.if_icmp .ge 37, 3) := by decide +kernel
theorem dX2_readTest_14 : decode cX2_readTest 14 = .ok (.aload_n 0, 1) := by decide +kernel
theorem dX2_readTest_15 : decode cX2_readTest 15 = .ok (.getfield 15, 3) := by decide +kernel
theorem dX2_readTest_18 : decode cX2_readTest 18 = .ok (.sipush 319, 3) := by decide +kernel
theorem dX2_readTest_21 : decode cX2_readTest 21 = .ok (.if_icmp .ne 27, 3) := by decide +kernel
theorem dX2_readTest_24 : decode cX2_readTest 24 = .ok (.aload_n 0, 1) := by decide +kernel
theorem dX2_readTest_25 : decode cX2_readTest 25 = .ok (.invokevirtual 66, 3) := by decide +kernel
theorem dX2_readTest_28 : decode cX2_readTest 28 = .ok (.aload_n 0, 1) := by decide +kernel
theorem dX2_readTest_29 : decode cX2_readTest 29 = .ok (.invokevirtual 179, 3) := by decide +kernel
theorem dX2_readTest_32 : decode cX2_readTest 32 = .ok (.aload_n 0, 1) := by decide +kernel
theorem dX2_readTest_33 : decode cX2_readTest 33 = .ok (.getfield 26, 3) := by decide +kernel
theorem dX2_readTest_36 : decode cX2_readTest 36 = .ok (.sipush (-319), 3) := by decide +kernel
theorem dX2_readTest_39 : decode cX2_readTest 39 = .ok (.invokevirtual 182, 3) := by decide +kernel
theorem dX2_readTest_42 : decode cX2_readTest 42 = .ok (.iinc 1 1, 3) := by decide +kernel
theorem dX2_readTest_45 : decode cX2_readTest 45 = .ok (.goto (-39), 3) := by decide +kernel
theorem dX2_readTest_48 : decode cX2_readTest 48 = .ok (.return_, 1) := by decide +kernel
set_option maxRecDepth 20000 in
theorem ggX2_readBoth_X2_readFact : GoodIn wsX2_readBoth wsX2_readFact := goodIn_r _ [52, 2, 53, 3, 15, 54, 55, 56, 7, 57, 33, 34, 35, 36, 12, 37, 8, 9, 10, 11, 13, 1, 14, 16, 17, 18, 19, 20, 21, 22, 23, 24, 25, 26, 27, 28, 29, 30, 31, 32, 38, 39, 40, 41, 42, 43, 44, 4, 5, 6, 45, 46, 47, 48, 49, 50, 51, 58, 59, 60, 61, 62, 63, 64, 65, 66, 67, 68, 69, 70, 71, 72, 73, 74, 75, 76, 77, 78, 79, 80, 81, 82, 83, 0, 84, 85, 86, 87, 88, 89, 90, 91, 92, 93, 94, 95, 96, 97, 98, 99, 100, 101, 102, 103, 104, 105, 106, 107, 108, 109, 110, 111, 112, 113, 114, 115, 116, 117, 118] rfl (by decide +kernel)
set_option maxRecDepth 20000 in
theorem gX2_readBoth_X2_readFact : GoodIn wsX2_readBoth (wsV RX2 185 RX2 yX2_readFact wsX2_readFact) := goodIn_app (goodIn_of _ (by decide +kernel)) ggX2_readBoth_X2_readFact
set_option maxRecDepth 20000 in
theorem ggX2_readBoth_X2_step : GoodIn wsX2_readBoth wsX2_step := goodIn_r _ [11, 12, 13, 2, 1, 14, 15, 16, 17, 7, 18, 19, 20, 21, 22, 23, 24, 25, 26, 27, 28, 29, 30, 31, 32, 33, 34, 35, 36, 37, 38, 39, 40, 41, 42, 43, 44, 88, 89, 90, 91, 92, 93, 94, 95, 96, 97, 98] rfl (by decide +kernel)
set_option maxRecDepth 20000 in
theorem gX2_readBoth_X2_step : GoodIn wsX2_readBoth (wsV RX2 66 RX2 yX2_step wsX2_step) := goodIn_app (goodIn_of _ (by decide +kernel)) ggX2_readBoth_X2_step
set_option maxRecDepth 20000 in
theorem ggX2_readBoth_X5_write : GoodIn wsX2_readBoth wsX5_write := goodIn_r _ [49, 50, 51, 99, 100, 101, 102, 103, 104, 105, 106, 107, 108, 109, 110, 111, 112, 113, 114, 115, 116, 117, 118] rfl (by decide +kernel)
set_option maxRecDepth 20000 in
theorem gX2_readBoth_X5_write : GoodIn wsX2_readBoth (wsV RX2 182 RX5 yX5_write wsX5_write) := goodIn_app (goodIn_of _ (by decide +kernel)) ggX2_readBoth_X5_write
theorem dX2_readBoth_0 : decode cX2_readBoth 0 = .ok (.aload_n 0, 1) := by decide +kernel
theorem dX2_readBoth_1 : decode cX2_readBoth 1 = .ok (.invokevirtual 185, 3) := by decide +kernel
theorem dX2_readBoth_4 : decode cX2_readBoth 4 = .ok (.iconst 0, 1) := by decide +kernel
theorem dX2_readBoth_5 : decode cX2_readBoth 5 = .ok (.istore_n 1, 1) := by decide +kernel
theorem dX2_readBoth_6 : decode cX2_readBoth 6 = .ok (.iload_n 1, 1) := by decide +kernel
theorem dX2_readBoth_7 : decode cX2_readBoth 7 = .ok (.aload_n 0, 1) := by decide +kernel
theorem dX2_readBoth_8 : decode cX2_readBoth 8 = .ok (.getfield 55, 3) := by decide +kernel
theorem dX2_readBoth_11 : decode cX2_readBoth 11 = .ok (.if_icmp .ge 37, 3) := by decide +kernel
theorem dX2_readBoth_14 : decode cX2_readBoth 14 = .ok (.aload_n 0, 1) := by decide +kernel
theorem dX2_readBoth_15 : decode cX2_readBoth 15 = .ok (.getfield 15, 3) := by decide +kernel
theorem dX2_readBoth_18 : decode cX2_readBoth 18 = .ok (.sipush 320, 3) := by decide +kernel
theorem dX2_readBoth_21 : decode cX2_readBoth 21 = .ok (.if_icmp .ne 27, 3) := by decide +kernel
theorem dX2_readBoth_24 : decode cX2_readBoth 24 = .ok (.aload_n 0, 1) := by decide +kernel
theorem dX2_readBoth_25 : decode cX2_readBoth 25 = .ok (.invokevirtual 66, 3) := by decide +kernel
theorem dX2_readBoth_28 : decode cX2_readBoth 28 = .ok (.aload_n 0, 1) := by decide +kernel
theorem dX2_readBoth_29 : decode cX2_readBoth 29 = .ok (.invokevirtual 185, 3) := by decide +kernel
theorem dX2_readBoth_32 : decode cX2_readBoth 32 = .ok (.aload_n 0, 1) := by decide +kernel
theorem dX2_readBoth_33 : decode cX2_readBoth 33 = .ok (.getfield 26, 3) := by decide +kernel
theorem dX2_readBoth_36 : decode cX2_readBoth 36 = .ok (.sipush (-320), 3) := by decide +kernel
theorem dX2_readBoth_39 : decode cX2_readBoth 39 = .ok (.invokevirtual 182, 3) := by decide +kernel
theorem dX2_readBoth_42 : decode cX2_readBoth 42 = .ok (.iinc 1 1, 3) := by decide +kernel
theorem dX2_readBoth_45 : decode cX2_readBoth 45 = .ok (.goto (-39), 3) := by decide +kernel
theorem dX2_readBoth_48 : decode cX2_readBoth 48 = .ok (.return_, 1) := by decide +kernel
set_option maxRecDepth 20000 in
theorem ggX2_readFact_X2_open : GoodIn wsX2_readFact wsX2_open := goodIn_r _ [9, 2, 4, 10, 11, 12, 8, 13, 14, 15, 1, 16, 17, 18, 19, 20, 21, 22, 23, 24, 25, 26, 27, 28, 29, 30, 31, 32, 33, 34, 35, 36, 37, 38, 39, 40, 41, 42, 43, 44, 45, 46, 88, 89, 90, 91, 92, 93, 94, 95, 96, 97, 98] rfl (by decide +kernel)
set_option maxRecDepth 20000 in
theorem gX2_readFact_X2_open : GoodIn wsX2_readFact (wsV RX2 188 RX2 yX2_open wsX2_open) := goodIn_app (goodIn_of _ (by decide +kernel)) ggX2_readFact_X2_open
set_option maxRecDepth 20000 in
theorem ggX2_readFact_X2_readFact : GoodIn wsX2_readFact wsX2_readFact := goodIn_r _ [0, 1, 2, 3, 4, 5, 6, 7, 8, 9, 10, 11, 12, 13, 14, 15, 16, 17, 18, 19, 20, 21, 22, 23, 24, 25, 26, 27, 28, 29, 30, 31, 32, 33, 34, 35, 36, 37, 38, 39, 40, 41, 42, 43, 44, 45, 46, 47, 48, 49, 50, 51, 52, 53, 54, 55, 56, 57, 58, 59, 60, 61, 62, 63, 64, 65, 66, 67, 68, 69, 70, 71, 72, 73, 74, 75, 76, 77, 78, 79, 80, 81, 82, 83, 84, 85, 86, 87, 88, 89, 90, 91, 92, 93, 94, 95, 96, 97, 98, 99, 100, 101, 102, 103, 104, 105, 106, 107, 108, 109, 110, 111, 112, 113, 114, 115, 116, 117, 118] rfl (by decide +kernel)
set_option maxRecDepth 20000 in
theorem gX2_readFact_X2_readFact : GoodIn wsX2_readFact (wsV RX2 185 RX2 yX2_readFact wsX2_readFact) := goodIn_app (goodIn_of _ (by decide +kernel)) ggX2_readFact_X2_readFact
set_option maxRecDepth 20000 in
theorem ggX2_readFact_X5_write : GoodIn wsX2_readFact wsX5_write := goodIn_r _ [54, 55, 56, 99, 100, 101, 102, 103, 104, 105, 106, 107, 108, 109, 110, 111, 112, 113, 114, 115, 116, 117, 118] rfl (by decide +kernel)
set_option maxRecDepth 20000 in
theorem gX2_readFact_X5_write : GoodIn wsX2_readFact (wsV RX2 182 RX5 yX5_write wsX5_write) := goodIn_app (goodIn_of _ (by decide +kernel)) ggX2_readFact_X5_write
set_option maxRecDepth 20000 in
theorem ggX2_readFact_X2_readTest : GoodIn wsX2_readFact wsX2_readTest := goodIn_r _ [84, 21, 1, 3, 85, 86, 87, 8, 16, 17, 18, 19, 14, 20, 22, 4, 23, 24, 25, 26, 27, 28, 29, 30, 31, 32, 33, 34, 35, 36, 37, 38, 39, 10, 11, 12, 13, 15, 40, 41, 42, 43, 44, 45, 46, 50, 51, 52, 53, 54, 55, 56, 83, 47, 48, 49, 0, 2, 5, 6, 7, 9, 57, 58, 59, 60, 61, 62, 63, 64, 65, 66, 67, 68, 69, 70, 71, 72, 73, 74, 75, 76, 77, 78, 79, 80, 81, 82, 88, 89, 90, 91, 92, 93, 94, 95, 96, 97, 98, 99, 100, 101, 102, 103, 104, 105, 106, 107, 108, 109, 110, 111, 112, 113, 114, 115, 116, 117, 118] rfl (by decide +kernel)
set_option maxRecDepth 20000 in
theorem gX2_readFact_X2_readTest : GoodIn wsX2_readFact (wsV RX2 118 RX2 yX2_readTest wsX2_readTest) := goodIn_app (goodIn_of _ (by decide +kernel)) ggX2_readFact_X2_readTest
set_option maxRecDepth 20000 in
theorem ggX2_readFact_X2_pass : GoodIn wsX2_readFact wsX2_pass := goodIn_r _ [63, 1, 4, 10, 11, 12, 8, 13, 14, 15, 16, 17, 18, 19, 20, 21, 22, 23, 24, 25, 26, 27, 28, 29, 30, 31, 32, 33, 34, 35, 36, 37, 38, 39, 40, 41, 42, 43, 44, 45, 46, 88, 89, 90, 91, 92, 93, 94, 95, 96, 97, 98] rfl (by decide +kernel)
set_option maxRecDepth 20000 in
theorem gX2_readFact_X2_pass : GoodIn wsX2_readFact (wsV RX2 127 RX2 yX2_pass wsX2_pass) := goodIn_app (goodIn_of _ (by decide +kernel)) ggX2_readFact_X2_pass
set_option maxRecDepth 20000 in
theorem ggX2_readFact_X2_step : GoodIn wsX2_readFact wsX2_step := goodIn_r _ [19, 14, 20, 1, 21, 22, 4, 23, 24, 8, 25, 26, 27, 28, 29, 30, 31, 32, 33, 34, 35, 36, 37, 38, 39, 10, 11, 12, 13, 15, 40, 41, 42, 43, 44, 45, 46, 88, 89, 90, 91, 92, 93, 94, 95, 96, 97, 98] rfl (by decide +kernel)
set_option maxRecDepth 20000 in
theorem gX2_readFact_X2_step : GoodIn wsX2_readFact (wsV RX2 66 RX2 yX2_step wsX2_step) := goodIn_app (goodIn_of _ (by decide +kernel)) ggX2_readFact_X2_step
set_option maxRecDepth 20000 in
theorem ggX2_readFact_X2_readSum : GoodIn wsX2_readFact wsX2_readSum := goodIn_r _ [67, 21, 1, 3, 68, 69, 70, 8, 16, 17, 18, 19, 14, 20, 22, 4, 23, 24, 25, 26, 27, 28, 29, 30, 31, 32, 33, 34, 35, 36, 37, 38, 39, 10, 11, 12, 13, 15, 40, 41, 42, 43, 44, 45, 46, 50, 51, 52, 53, 54, 55, 56, 71, 2, 5, 6, 7, 9, 64, 65, 66, 60, 61, 62, 63, 72, 73, 74, 75, 76, 77, 78, 79, 80, 81, 82, 88, 89, 90, 91, 92, 93, 94, 95, 96, 97, 98, 99, 100, 101, 102, 103, 104, 105, 106, 107, 108, 109, 110, 111, 112, 113, 114, 115, 116, 117, 118] rfl (by decide +kernel)
set_option maxRecDepth 20000 in
theorem gX2_readFact_X2_readSum : GoodIn wsX2_readFact (wsV RX2 121 RX2 yX2_readSum wsX2_readSum) := goodIn_app (goodIn_of _ (by decide +kernel)) ggX2_readFact_X2_readSum
set_option maxRecDepth 20000 in
theorem ggX2_readFact_X2_blame : GoodIn wsX2_readFact wsX2_blame := goodIn_r _ [13, 14, 15, 1, 88, 89, 90, 91, 92, 93, 94, 95, 96, 97, 98] rfl (by decide +kernel)
set_option maxRecDepth 20000 in
theorem gX2_readFact_X2_blame : GoodIn wsX2_readFact (wsV RX2 76 RX2 yX2_blame wsX2_blame) := goodIn_app (goodIn_of _ (by decide +kernel)) ggX2_readFact_X2_blame
theorem dX2_readFact_0 : decode cX2_readFact 0 = .ok (.aload_n 0, 1) := by decide +kernel
theorem dX2_readFact_1 : decode cX2_readFact 1 = .ok (.getfield 15, 3) := by decide +kernel
theorem dX2_readFact_4 : decode cX2_readFact 4 = .ok (.sipush 321, 3) := by decide +kernel
theorem dX2_readFact_7 : decode cX2_readFact 7 = .ok (.if_icmp .ne 34, 3) := by decide +kernel
theorem dX2_readFact_10 : decode cX2_readFact 10 = .ok (.aload_n 0, 1) := by decide +kernel
theorem dX2_readFact_11 : decode cX2_readFact 11 = .ok (.invokevirtual 188, 3) := by decide +kernel
theorem dX2_readFact_14 : decode cX2_readFact 14 = .ok (.aload_n 0, 1) := by decide +kernel
theorem dX2_readFact_15 : decode cX2_readFact 15 = .ok (.invokevirtual 185, 3) := by decide +kernel
theorem dX2_readFact_18 : decode cX2_readFact 18 = .ok (.aload_n 0, 1) := by decide +kernel
theorem dX2_readFact_19 : decode cX2_readFact 19 = .ok (.dup, 1) := by decide +kernel
theorem dX2_readFact_20 : decode cX2_readFact 20 = .ok (.getfield 60, 3) := by decide +kernel
theorem dX2_readFact_23 : decode cX2_readFact 23 = .ok (.iconst 1, 1) := by decide +kernel
theorem dX2_readFact_24 : decode cX2_readFact 24 = .ok (.isub, 1) := by decide +kernel
theorem dX2_readFact_25 : decode cX2_readFact 25 = .ok (.putfield 60, 3) := by decide +kernel
theorem dX2_readFact_28 : decode cX2_readFact 28 = .ok (.aload_n 0, 1) := by decide +kernel
theorem dX2_readFact_29 : decode cX2_readFact 29 = .ok (.getfield 26, 3) := by decide +kernel
theorem dX2_readFact_32 : decode cX2_readFact 32 = .ok (.sipush (-321), 3) := by decide +kernel
theorem dX2_readFact_35 : decode cX2_readFact 35 = .ok (.invokevirtual 182, 3) := by decide +kernel
theorem dX2_readFact_38 : decode cX2_readFact 38 = .ok (.goto 120, 3) := by decide +kernel
theorem dX2_readFact_41 : decode cX2_readFact 41 = .ok (.aload_n 0, 1) := by decide +kernel
theorem dX2_readFact_42 : decode cX2_readFact 42 = .ok (.getfield 15, 3) := by decide +kernel
theorem dX2_readFact_45 : decode cX2_readFact 45 = .ok (.bipush 91, 2) := by decide +kernel
theorem dX2_readFact_47 : decode cX2_readFact 47 = .ok (.if_icmp .ne 30, 3) := by decide +kernel
theorem dX2_readFact_50 : decode cX2_readFact 50 = .ok (.aload_n 0, 1) := by decide +kernel
theorem dX2_readFact_51 : decode cX2_readFact 51 = .ok (.invokevirtual 188, 3) := by decide +kernel
theorem dX2_readFact_54 : decode cX2_readFact 54 = .ok (.aload_n 0, 1) := by decide +kernel
theorem dX2_readFact_55 : decode cX2_readFact 55 = .ok (.invokevirtual 118, 3) := by decide +kernel
theorem dX2_readFact_58 : decode cX2_readFact 58 = .ok (.aload_n 0, 1) := by decide +kernel
theorem dX2_readFact_59 : decode cX2_readFact 59 = .ok (.dup, 1) := by decide +kernel
theorem dX2_readFact_60 : decode cX2_readFact 60 = .ok (.getfield 60, 3) := by decide +kernel
theorem dX2_readFact_63 : decode cX2_readFact 63 = .ok (.iconst 1, 1) := by decide +kernel
theorem dX2_readFact_64 : decode cX2_readFact 64 = .ok (.isub, 1) := by decide +kernel
theorem dX2_readFact_65 : decode cX2_readFact 65 = .ok (.putfield 60, 3) := by decide +kernel
theorem dX2_readFact_68 : decode cX2_readFact 68 = .ok (.aload_n 0, 1) := by decide +kernel
theorem dX2_readFact_69 : decode cX2_readFact 69 = .ok (.bipush 93, 2) := by decide +kernel
theorem dX2_readFact_71 : decode cX2_readFact 71 = .ok (.invokevirtual 127, 3) := by decide +kernel
theorem dX2_readFact_74 : decode cX2_readFact 74 = .ok (.goto 84, 3) := by decide +kernel
theorem dX2_readFact_77 : decode cX2_readFact 77 = .ok (.aload_n 0, 1) := by decide +kernel
theorem dX2_readFact_78 : decode cX2_readFact 78 = .ok (.getfield 15, 3) := by decide +kernel
theorem dX2_readFact_81 : decode cX2_readFact 81 = .ok (.sipush 322, 3) := by decide +kernel
theorem dX2_readFact_84 : decode cX2_readFact 84 = .ok (.if_icmp .ne 20, 3) := by decide +kernel
theorem dX2_readFact_87 : decode cX2_readFact 87 = .ok (.aload_n 0, 1) := by decide +kernel
theorem dX2_readFact_88 : decode cX2_readFact 88 = .ok (.getfield 26, 3) := by decide +kernel
theorem dX2_readFact_91 : decode cX2_readFact 91 = .ok (.sipush (-322), 3) := by decide +kernel
theorem dX2_readFact_94 : decode cX2_readFact 94 = .ok (.invokevirtual 182, 3) := by decide +kernel
theorem dX2_readFact_97 : decode cX2_readFact 97 = .ok (.aload_n 0, 1) := by decide +kernel
theorem dX2_readFact_98 : decode cX2_readFact 98 = .ok (.invokevirtual 66, 3) := by decide +kernel
theorem dX2_readFact_101 : decode cX2_readFact 101 = .ok (.goto 57, 3) := by decide +kernel
theorem dX2_readFact_104 : decode cX2_readFact 104 = .ok (.aload_n 0, 1) := by decide +kernel
theorem dX2_readFact_105 : decode cX2_readFact 105 = .ok (.invokevirtual 121, 3) := by decide +kernel
theorem dX2_readFact_108 : decode cX2_readFact 108 = .ok (.aload_n 0, 1) := by decide +kernel
theorem dX2_readFact_109 : decode cX2_readFact 109 = .ok (.getfield 15, 3) := by decide +kernel
theorem dX2_readFact_112 : decode cX2_readFact 112 = .ok (.istore_n 1, 1) := by decide +kernel
theorem dX2_readFact_113 : decode cX2_readFact 113 = .ok (.iload_n 1, 1) := by decide +kernel
theorem dX2_readFact_114 : decode cX2_readFact 114 = .ok (.bipush 60, 2) := by decide +kernel
theorem dX2_readFact_116 : decode cX2_readFact 116 = .ok (.if_icmp .eq 25, 3) := by decide +kernel
theorem dX2_readFact_119 : decode cX2_readFact 119 = .ok (.iload_n 1, 1) := by decide +kernel
theorem dX2_readFact_120 : decode cX2_readFact 120 = .ok (.bipush 62, 2) := by decide +kernel
theorem dX2_readFact_122 : decode cX2_readFact 122 = .ok (.if_icmp .eq 19, 3) := by decide +kernel
theorem dX2_readFact_125 : decode cX2_readFact 125 = .ok (.iload_n 1, 1) := by decide +kernel
theorem dX2_readFact_126 : decode cX2_readFact 126 = .ok (.bipush 61, 2) := by decide +kernel
theorem dX2_readFact_128 : decode cX2_readFact 128 = .ok (.if_icmp .eq 13, 3) := by decide +kernel
theorem dX2_readFact_131 : decode cX2_readFact 131 = .ok (.aload_n 0, 1) := by decide +kernel
theorem dX2_readFact_132 : decode cX2_readFact 132 = .ok (.iconst 1, 1) := by decide +kernel
theorem dX2_readFact_133 : decode cX2_readFact 133 = .ok (.aload_n 0, 1) := by decide +kernel
theorem dX2_readFact_134 : decode cX2_readFact 134 = .ok (.getfield 73, 3) := by decide +kernel
theorem dX2_readFact_137 : decode cX2_readFact 137 = .ok (.invokevirtual 76, 3) := by decide +kernel
theorem dX2_readFact_140 : decode cX2_readFact 140 = .ok (.return_, 1) := by decide +kernel
theorem dX2_readFact_141 : decode cX2_readFact 141 = .ok (.aload_n 0, 1) := by decide +kernel
theorem dX2_readFact_142 : decode cX2_readFact 142 = .ok (.invokevirtual 66, 3) := by decide +kernel
theorem dX2_readFact_145 : decode cX2_readFact 145 = .ok (.aload_n 0, 1) := by decide +kernel
theorem dX2_readFact_146 : decode cX2_readFact 146 = .ok (.invokevirtual 121, 3) := by decide +kernel
theorem dX2_readFact_149 : decode cX2_readFact 149 = .ok (.aload_n 0, 1) := by decide +kernel
theorem dX2_readFact_150 : decode cX2_readFact 150 = .ok (.getfield 26, 3) := by decide +kernel
theorem dX2_readFact_153 : decode cX2_readFact 153 = .ok (.iload_n 1, 1) := by decide +kernel
theorem dX2_readFact_154 : decode cX2_readFact 154 = .ok (.ineg, 1) := by decide +kernel
theorem dX2_readFact_155 : decode cX2_readFact 155 = .ok (.invokevirtual 182, 3) := by decide +kernel
theorem dX2_readFact_158 : decode cX2_readFact 158 = .ok (.return_, 1) := by decide +kernel
set_option maxRecDepth 20000 in
theorem ggX2_readSum_X2_readProduct : GoodIn wsX2_readSum wsX2_readProduct := goodIn_r _ [72, 1, 2, 3, 73, 74, 75, 7, 8, 9, 10, 11, 12, 13, 14, 15, 16, 17, 18, 19, 20, 21, 22, 23, 24, 25, 26, 27, 28, 29, 30, 31, 32, 33, 34, 35, 36, 37, 38, 39, 40, 41, 42, 43, 44, 45, 46, 47, 48, 49, 50, 51, 52, 53, 54, 55, 56, 57, 58, 59, 60, 61, 62, 63, 64, 65, 66, 67, 68, 69, 70, 71, 0, 4, 5, 6, 76, 77, 78, 79, 80, 81, 82, 83, 84, 85, 86, 87, 88, 89, 90, 91, 92, 93, 94, 95, 96, 97, 98, 99, 100, 101, 102, 103, 104, 105, 106] rfl (by decide +kernel)
set_option maxRecDepth 20000 in
theorem gX2_readSum_X2_readProduct : GoodIn wsX2_readSum (wsV RX2 191 RX2 yX2_readProduct wsX2_readProduct) := goodIn_app (goodIn_of _ (by decide +kernel)) ggX2_readSum_X2_readProduct
set_option maxRecDepth 20000 in
theorem ggX2_readSum_X2_step : GoodIn wsX2_readSum wsX2_step := goodIn_r _ [11, 12, 13, 2, 1, 14, 15, 16, 17, 7, 18, 19, 20, 21, 22, 23, 24, 25, 26, 27, 28, 29, 30, 31, 32, 33, 34, 35, 36, 37, 38, 39, 40, 41, 42, 43, 44, 76, 77, 78, 79, 80, 81, 82, 83, 84, 85, 86] rfl (by decide +kernel)
set_option maxRecDepth 20000 in
theorem gX2_readSum_X2_step : GoodIn wsX2_readSum (wsV RX2 66 RX2 yX2_step wsX2_step) := goodIn_app (goodIn_of _ (by decide +kernel)) ggX2_readSum_X2_step
set_option maxRecDepth 20000 in
theorem ggX2_readSum_X5_write : GoodIn wsX2_readSum wsX5_write := goodIn_r _ [49, 50, 51, 87, 88, 89, 90, 91, 92, 93, 94, 95, 96, 97, 98, 99, 100, 101, 102, 103, 104, 105, 106] rfl (by decide +kernel)
set_option maxRecDepth 20000 in
theorem gX2_readSum_X5_write : GoodIn wsX2_readSum (wsV RX2 182 RX5 yX5_write wsX5_write) := goodIn_app (goodIn_of _ (by decide +kernel)) ggX2_readSum_X5_write
theorem dX2_readSum_0 : decode cX2_readSum 0 = .ok (.aload_n 0, 1) := by decide +kernel
theorem dX2_readSum_1 : decode cX2_readSum 1 = .ok (.invokevirtual 191, 3) := by decide +kernel
theorem dX2_readSum_4 : decode cX2_readSum 4 = .ok (.iconst 0, 1) := by decide +kernel
theorem dX2_readSum_5 : decode cX2_readSum 5 = .ok (.istore_n 1, 1) := by decide +kernel
theorem dX2_readSum_6 : decode cX2_readSum 6 = .ok (.iload_n 1, 1) := by decide +kernel
theorem dX2_readSum_7 : decode cX2_readSum 7 = .ok (.aload_n 0, 1) := by decide +kernel
theorem dX2_readSum_8 : decode cX2_readSum 8 = .ok (.getfield 55, 3) := by decide +kernel
theorem dX2_readSum_11 : decode cX2_readSum 11 = .ok (.if_icmp .ge 49, 3) := by decide +kernel
theorem dX2_readSum_14 : decode cX2_readSum 14 = .ok (.aload_n 0, 1) := by decide +kernel
theorem dX2_readSum_15 : decode cX2_readSum 15 = .ok (.getfield 15, 3) := by decide +kernel
theorem dX2_readSum_18 : decode cX2_readSum 18 = .ok (.bipush 43, 2) := by decide +kernel
theorem dX2_readSum_20 : decode cX2_readSum 20 = .ok (.if_icmp .eq 12, 3) := by decide +kernel
theorem dX2_readSum_23 : decode cX2_readSum 23 = .ok (.aload_n 0, 1) := by decide +kernel
theorem dX2_readSum_24 : decode cX2_readSum 24 = .ok (.getfield 15, 3) := by decide +kernel
theorem dX2_readSum_27 : decode cX2_readSum 27 = .ok (.bipush 45, 2) := by decide +kernel
theorem dX2_readSum_29 : decode cX2_readSum 29 = .ok (.if_icmp .ne 31, 3) := by decide +kernel
theorem dX2_readSum_32 : decode cX2_readSum 32 = .ok (.aload_n 0, 1) := by decide +kernel
theorem dX2_readSum_33 : decode cX2_readSum 33 = .ok (.getfield 15, 3) := by decide +kernel
theorem dX2_readSum_36 : decode cX2_readSum 36 = .ok (.istore_n 2, 1) := by decide +kernel
theorem dX2_readSum_37 : decode cX2_readSum 37 = .ok (.aload_n 0, 1) := by decide +kernel
theorem dX2_readSum_38 : decode cX2_readSum 38 = .ok (.invokevirtual 66, 3) := by decide +kernel
theorem dX2_readSum_41 : decode cX2_readSum 41 = .ok (.aload_n 0, 1) := by decide +kernel
theorem dX2_readSum_42 : decode cX2_readSum 42 = .ok (.invokevirtual 191, 3) := by decide +kernel
theorem dX2_readSum_45 : decode cX2_readSum 45 = .ok (.aload_n 0, 1) := by decide +kernel
theorem dX2_readSum_46 : decode cX2_readSum 46 = .ok (.getfield 26, 3) := by decide +kernel
theorem dX2_readSum_49 : decode cX2_readSum 49 = .ok (.iload_n 2, 1) := by decide +kernel
theorem dX2_readSum_50 : decode cX2_readSum 50 = .ok (.ineg, 1) := by decide +kernel
theorem dX2_readSum_51 : decode cX2_readSum 51 = .ok (.invokevirtual 182, 3) := by decide +kernel
theorem dX2_readSum_54 : decode cX2_readSum 54 = .ok (.iinc 1 1, 3) := by decide +kernel
theorem dX2_readSum_57 : decode cX2_readSum 57 = .ok (.goto (-51), 3) := by decide +kernel
theorem dX2_readSum_60 : decode cX2_readSum 60 = .ok (.return_, 1) := by decide +kernel
set_option maxRecDepth 20000 in
theorem ggX2_readProduct_X2_readPart : GoodIn wsX2_readProduct wsX2_readPart := goodIn_r _ [65, 2, 3, 27, 53, 15, 45, 46, 47, 48, 49, 50, 51, 8, 9, 10, 7, 11, 12, 13, 1, 14, 16, 17, 18, 19, 20, 21, 22, 23, 24, 25, 26, 28, 29, 30, 31, 32, 33, 34, 35, 36, 37, 38, 39, 40, 41, 42, 43, 44, 66, 67, 68, 54, 55, 56, 57, 58, 59, 60, 61, 62, 63, 64, 69, 70, 71, 52, 0, 4, 5, 6, 72, 73, 74, 75, 76, 77, 78, 79, 80, 81, 82, 83, 84, 85, 86, 87, 88, 89, 90, 91, 92, 93, 94, 95, 96, 97, 98, 99, 100, 101, 102, 103, 104, 105, 106] rfl (by decide +kernel)
set_option maxRecDepth 20000 in
theorem gX2_readProduct_X2_readPart : GoodIn wsX2_readProduct (wsV RX2 194 RX2 yX2_readPart wsX2_readPart) := goodIn_app (goodIn_of _ (by decide +kernel)) ggX2_readProduct_X2_readPart
set_option maxRecDepth 20000 in
theorem ggX2_readProduct_X2_step : GoodIn wsX2_readProduct wsX2_step := goodIn_r _ [11, 12, 13, 2, 1, 14, 15, 16, 17, 7, 18, 19, 20, 21, 22, 23, 24, 25, 26, 27, 28, 29, 30, 31, 32, 33, 34, 35, 36, 37, 38, 39, 40, 41, 42, 43, 44, 76, 77, 78, 79, 80, 81, 82, 83, 84, 85, 86] rfl (by decide +kernel)
set_option maxRecDepth 20000 in
theorem gX2_readProduct_X2_step : GoodIn wsX2_readProduct (wsV RX2 66 RX2 yX2_step wsX2_step) := goodIn_app (goodIn_of _ (by decide +kernel)) ggX2_readProduct_X2_step
set_option maxRecDepth 20000 in
theorem ggX2_readProduct_X5_write : GoodIn wsX2_readProduct wsX5_write := goodIn_r _ [49, 50, 51, 87, 88, 89, 90, 91, 92, 93, 94, 95, 96, 97, 98, 99, 100, 101, 102, 103, 104, 105, 106] rfl (by decide +kernel)
set_option maxRecDepth 20000 in
theorem gX2_readProduct_X5_write : GoodIn wsX2_readProduct (wsV RX2 182 RX5 yX5_write wsX5_write) := goodIn_app (goodIn_of _ (by decide +kernel)) ggX2_readProduct_X5_write
theorem dX2_readProduct_0 : decode cX2_readProduct 0 = .ok (.aload_n 0, 1) := by decide +kernel
theorem dX2_readProduct_1 : decode cX2_readProduct 1 = .ok (.invokevirtual 194, 3) := by decide +kernel
theorem dX2_readProduct_4 : decode cX2_readProduct 4 = .ok (.iconst 0, 1) := by decide +kernel
theorem dX2_readProduct_5 : decode cX2_readProduct 5 = .ok (.istore_n 1, 1) := by decide +kernel
theorem dX2_readProduct_6 : decode cX2_readProduct 6 = .ok (.iload_n 1, 1) := by decide +kernel
theorem dX2_readProduct_7 : decode cX2_readProduct 7 = .ok (.aload_n 0, 1) := by decide +kernel
theorem dX2_readProduct_8 : decode cX2_readProduct 8 = .ok (.getfield 55, 3) := by decide +kernel
theorem dX2_readProduct_11 : decode cX2_readProduct 11 = .ok (.if_icmp .ge 58, 3) := by decide +kernel
theorem dX2_readProduct_14 : decode cX2_readProduct 14 = .ok (.aload_n 0, 1) := by decide +kernel
theorem dX2_readProduct_15 : decode cX2_readProduct 15 = .ok (.getfield 15, 3) := by decide +kernel
theorem dX2_readProduct_18 : decode cX2_readProduct 18 = .ok (.bipush 42, 2) := by decide +kernel
theorem dX2_readProduct_20 : decode cX2_readProduct 20 = .ok (.if_icmp .eq 21, 3) := by decide +kernel
theorem dX2_readProduct_23 : decode cX2_readProduct 23 = .ok (.aload_n 0, 1) := by decide +kernel
theorem dX2_readProduct_24 : decode cX2_readProduct 24 = .ok (.getfield 15, 3) := by decide +kernel
theorem dX2_readProduct_27 : decode cX2_readProduct 27 = .ok (.bipush 47, 2) := by decide +kernel
theorem dX2_readProduct_29 : decode cX2_readProduct 29 = .ok (.if_icmp .eq 12, 3) := by decide +kernel
theorem dX2_readProduct_32 : decode cX2_readProduct 32 = .ok (.aload_n 0, 1) := by decide +kernel
theorem dX2_readProduct_33 : decode cX2_readProduct 33 = .ok (.getfield 15, 3) := by decide +kernel
theorem dX2_readProduct_36 : decode cX2_readProduct 36 = .ok (.bipush 37, 2) := by decide +kernel
theorem dX2_readProduct_38 : decode cX2_readProduct 38 = .ok (.if_icmp .ne 31, 3) := by decide +kernel
theorem dX2_readProduct_41 : decode cX2_readProduct 41 = .ok (.aload_n 0, 1) := by decide +kernel
theorem dX2_readProduct_42 : decode cX2_readProduct 42 = .ok (.getfield 15, 3) := by decide +kernel
theorem dX2_readProduct_45 : decode cX2_readProduct 45 = .ok (.istore_n 2, 1) := by decide +kernel
theorem dX2_readProduct_46 : decode cX2_readProduct 46 = .ok (.aload_n 0, 1) := by decide +kernel
theorem dX2_readProduct_47 : decode cX2_readProduct 47 = .ok (.invokevirtual 66, 3) := by decide +kernel
theorem dX2_readProduct_50 : decode cX2_readProduct 50 = .ok (.aload_n 0, 1) := by decide +kernel
theorem dX2_readProduct_51 : decode cX2_readProduct 51 = .ok (.invokevirtual 194, 3) := by decide +kernel
theorem dX2_readProduct_54 : decode cX2_readProduct 54 = .ok (.aload_n 0, 1) := by decide +kernel
theorem dX2_readProduct_55 : decode cX2_readProduct 55 = .ok (.getfield 26, 3) := by decide +kernel
theorem dX2_readProduct_58 : decode cX2_readProduct 58 = .ok (.iload_n 2, 1) := by decide +kernel
theorem dX2_readProduct_59 : decode cX2_readProduct 59 = .ok (.ineg, 1) := by decide +kernel
theorem dX2_readProduct_60 : decode cX2_readProduct 60 = .ok (.invokevirtual 182, 3) := by decide +kernel
theorem dX2_readProduct_63 : decode cX2_readProduct 63 = .ok (.iinc 1 1, 3) := by decide +kernel
theorem dX2_readProduct_66 : decode cX2_readProduct 66 = .ok (.goto (-60), 3) := by decide +kernel
theorem dX2_readProduct_69 : decode cX2_readProduct 69 = .ok (.return_, 1) := by decide +kernel
set_option maxRecDepth 20000 in
theorem ggX2_readPart_X5_write : GoodIn wsX2_readPart wsX5_write := goodIn_r _ [10, 11, 12, 87, 88, 89, 90, 91, 92, 93, 94, 95, 96, 97, 98, 99, 100, 101, 102, 103, 104, 105, 106] rfl (by decide +kernel)
set_option maxRecDepth 20000 in
theorem gX2_readPart_X5_write : GoodIn wsX2_readPart (wsV RX2 182 RX5 yX5_write wsX5_write) := goodIn_app (goodIn_of _ (by decide +kernel)) ggX2_readPart_X5_write
set_option maxRecDepth 20000 in
theorem ggX2_readPart_X2_step : GoodIn wsX2_readPart wsX2_step := goodIn_r _ [17, 18, 19, 1, 20, 21, 5, 22, 23, 16, 24, 25, 26, 27, 28, 29, 30, 31, 32, 3, 33, 34, 35, 36, 37, 38, 39, 40, 41, 42, 43, 44, 45, 46, 47, 48, 49, 76, 77, 78, 79, 80, 81, 82, 83, 84, 85, 86] rfl (by decide +kernel)
set_option maxRecDepth 20000 in
theorem gX2_readPart_X2_step : GoodIn wsX2_readPart (wsV RX2 66 RX2 yX2_step wsX2_step) := goodIn_app (goodIn_of _ (by decide +kernel)) ggX2_readPart_X2_step
set_option maxRecDepth 20000 in
theorem ggX2_readPart_X5_isPart : GoodIn wsX2_readPart wsX5_isPart := goodIn_r _ [52] rfl (by decide +kernel)
set_option maxRecDepth 20000 in
theorem gX2_readPart_X5_isPart : GoodIn wsX2_readPart (va_wsS RX2 197 yX5_isPart wsX5_isPart) := goodIn_app (goodIn_of _ (by decide +kernel)) ggX2_readPart_X5_isPart
set_option maxRecDepth 20000 in
theorem ggX2_readPart_X2_open : GoodIn wsX2_readPart wsX2_open := goodIn_r _ [56, 4, 5, 38, 39, 40, 16, 41, 18, 42, 1, 13, 14, 15, 17, 19, 20, 21, 22, 23, 24, 25, 26, 27, 28, 29, 30, 31, 32, 3, 33, 34, 35, 36, 37, 43, 44, 45, 46, 47, 48, 49, 76, 77, 78, 79, 80, 81, 82, 83, 84, 85, 86] rfl (by decide +kernel)
set_option maxRecDepth 20000 in
theorem gX2_readPart_X2_open : GoodIn wsX2_readPart (wsV RX2 188 RX2 yX2_open wsX2_open) := goodIn_app (goodIn_of _ (by decide +kernel)) ggX2_readPart_X2_open
set_option maxRecDepth 20000 in
theorem ggX2_readPart_X2_readSum : GoodIn wsX2_readPart wsX2_readSum := goodIn_r _ [72, 20, 1, 2, 73, 74, 75, 16, 13, 14, 15, 17, 18, 19, 21, 5, 22, 23, 24, 25, 26, 27, 28, 29, 30, 31, 32, 3, 33, 34, 35, 36, 37, 38, 39, 40, 41, 42, 43, 44, 45, 46, 47, 48, 49, 6, 7, 8, 9, 10, 11, 12, 67, 4, 53, 54, 55, 56, 57, 58, 59, 60, 61, 62, 63, 0, 50, 51, 52, 64, 65, 66, 68, 69, 70, 71, 76, 77, 78, 79, 80, 81, 82, 83, 84, 85, 86, 87, 88, 89, 90, 91, 92, 93, 94, 95, 96, 97, 98, 99, 100, 101, 102, 103, 104, 105, 106] rfl (by decide +kernel)
set_option maxRecDepth 20000 in
theorem gX2_readPart_X2_readSum : GoodIn wsX2_readPart (wsV RX2 121 RX2 yX2_readSum wsX2_readSum) := goodIn_app (goodIn_of _ (by decide +kernel)) ggX2_readPart_X2_readSum
set_option maxRecDepth 20000 in
theorem ggX2_readPart_X2_pass : GoodIn wsX2_readPart wsX2_pass := goodIn_r _ [63, 1, 5, 38, 39, 40, 16, 41, 18, 42, 13, 14, 15, 17, 19, 20, 21, 22, 23, 24, 25, 26, 27, 28, 29, 30, 31, 32, 3, 33, 34, 35, 36, 37, 43, 44, 45, 46, 47, 48, 49, 76, 77, 78, 79, 80, 81, 82, 83, 84, 85, 86] rfl (by decide +kernel)
set_option maxRecDepth 20000 in
theorem gX2_readPart_X2_pass : GoodIn wsX2_readPart (wsV RX2 127 RX2 yX2_pass wsX2_pass) := goodIn_app (goodIn_of _ (by decide +kernel)) ggX2_readPart_X2_pass
set_option maxRecDepth 20000 in
theorem ggX2_readPart_X2_readLeastOrGreatest : GoodIn wsX2_readPart wsX2_readLeastOrGreatest := goodIn_r _ [67, 1, 5, 4, 2, 13, 14, 15, 16, 17, 18, 19, 20, 21, 22, 23, 24, 25, 26, 27, 28, 29, 30, 31, 32, 3, 33, 34, 35, 36, 37, 38, 39, 40, 41, 42, 43, 44, 45, 46, 47, 48, 49, 53, 54, 55, 56, 57, 58, 59, 60, 61, 62, 63, 6, 7, 8, 9, 10, 11, 12, 0, 50, 51, 52, 64, 65, 66, 68, 69, 70, 71, 72, 73, 74, 75, 76, 77, 78, 79, 80, 81, 82, 83, 84, 85, 86, 87, 88, 89, 90, 91, 92, 93, 94, 95, 96, 97, 98, 99, 100, 101, 102, 103, 104, 105, 106] rfl (by decide +kernel)
set_option maxRecDepth 20000 in
theorem gX2_readPart_X2_readLeastOrGreatest : GoodIn wsX2_readPart (wsV RX2 200 RX2 yX2_readLeastOrGreatest wsX2_readLeastOrGreatest) := goodIn_app (goodIn_of _ (by decide +kernel)) ggX2_readPart_X2_readLeastOrGreatest
set_option maxRecDepth 20000 in
theorem ggX2_readPart_X2_blame : GoodIn wsX2_readPart wsX2_blame := goodIn_r _ [41, 18, 42, 1, 76, 77, 78, 79, 80, 81, 82, 83, 84, 85, 86] rfl (by decide +kernel)
set_option maxRecDepth 20000 in
theorem gX2_readPart_X2_blame : GoodIn wsX2_readPart (wsV RX2 76 RX2 yX2_blame wsX2_blame) := goodIn_app (goodIn_of _ (by decide +kernel)) ggX2_readPart_X2_blame
theorem dX2_readPart_0 : decode cX2_readPart 0 = .ok (.aload_n 0, 1) := by decide +kernel
theorem dX2_readPart_1 : decode cX2_readPart 1 = .ok (.getfield 15, 3) := by decide +kernel
theorem dX2_readPart_4 : decode cX2_readPart 4 = .ok (.istore_n 1, 1) := by decide +kernel
theorem dX2_readPart_5 : decode cX2_readPart 5 = .ok (.iload_n 1, 1) := by decide +kernel
theorem dX2_readPart_6 : decode cX2_readPart 6 = .ok (.sipush 257, 3) := by decide +kernel
theorem dX2_readPart_9 : decode cX2_readPart 9 = .ok (.if_icmp .ne 21, 3) := by decide +kernel
theorem dX2_readPart_12 : decode cX2_readPart 12 = .ok (.aload_n 0, 1) := by decide +kernel
theorem dX2_readPart_13 : decode cX2_readPart 13 = .ok (.getfield 26, 3) := by decide +kernel
theorem dX2_readPart_16 : decode cX2_readPart 16 = .ok (.aload_n 0, 1) := by decide +kernel
theorem dX2_readPart_17 : decode cX2_readPart 17 = .ok (.getfield 172, 3) := by decide +kernel
theorem dX2_readPart_20 : decode cX2_readPart 20 = .ok (.invokevirtual 182, 3) := by decide +kernel
theorem dX2_readPart_23 : decode cX2_readPart 23 = .ok (.aload_n 0, 1) := by decide +kernel
theorem dX2_readPart_24 : decode cX2_readPart 24 = .ok (.invokevirtual 66, 3) := by decide +kernel
theorem dX2_readPart_27 : decode cX2_readPart 27 = .ok (.goto 90, 3) := by decide +kernel
theorem dX2_readPart_30 : decode cX2_readPart 30 = .ok (.iload_n 1, 1) := by decide +kernel
theorem dX2_readPart_31 : decode cX2_readPart 31 = .ok (.invokestatic 197, 3) := by decide +kernel
theorem dX2_readPart_34 : decode cX2_readPart 34 = .ok (.ifCond .eq 19, 3) := by decide +kernel
theorem dX2_readPart_37 : decode cX2_readPart 37 = .ok (.aload_n 0, 1) := by decide +kernel
theorem dX2_readPart_38 : decode cX2_readPart 38 = .ok (.getfield 26, 3) := by decide +kernel
theorem dX2_readPart_41 : decode cX2_readPart 41 = .ok (.iload_n 1, 1) := by decide +kernel
theorem dX2_readPart_42 : decode cX2_readPart 42 = .ok (.ineg, 1) := by decide +kernel
theorem dX2_readPart_43 : decode cX2_readPart 43 = .ok (.invokevirtual 182, 3) := by decide +kernel
theorem dX2_readPart_46 : decode cX2_readPart 46 = .ok (.aload_n 0, 1) := by decide +kernel
theorem dX2_readPart_47 : decode cX2_readPart 47 = .ok (.invokevirtual 66, 3) := by decide +kernel
theorem dX2_readPart_50 : decode cX2_readPart 50 = .ok (.goto 67, 3) := by decide +kernel
theorem dX2_readPart_53 : decode cX2_readPart 53 = .ok (.iload_n 1, 1) := by decide +kernel
theorem dX2_readPart_54 : decode cX2_readPart 54 = .ok (.bipush 40, 2) := by decide +kernel
theorem dX2_readPart_56 : decode cX2_readPart 56 = .ok (.if_icmp .ne 30, 3) := by decide +kernel
theorem dX2_readPart_59 : decode cX2_readPart 59 = .ok (.aload_n 0, 1) := by decide +kernel
theorem dX2_readPart_60 : decode cX2_readPart 60 = .ok (.invokevirtual 188, 3) := by decide +kernel
theorem dX2_readPart_63 : decode cX2_readPart 63 = .ok (.aload_n 0, 1) := by decide +kernel
theorem dX2_readPart_64 : decode cX2_readPart 64 = .ok (.invokevirtual 121, 3) := by decide +kernel
theorem dX2_readPart_67 : decode cX2_readPart 67 = .ok (.aload_n 0, 1) := by decide +kernel
theorem dX2_readPart_68 : decode cX2_readPart 68 = .ok (.dup, 1) := by decide +kernel
theorem dX2_readPart_69 : decode cX2_readPart 69 = .ok (.getfield 60, 3) := by decide +kernel
theorem dX2_readPart_72 : decode cX2_readPart 72 = .ok (.iconst 1, 1) := by decide +kernel
theorem dX2_readPart_73 : decode cX2_readPart 73 = .ok (.isub, 1) := by decide +kernel
theorem dX2_readPart_74 : decode cX2_readPart 74 = .ok (.putfield 60, 3) := by decide +kernel
theorem dX2_readPart_77 : decode cX2_readPart 77 = .ok (.aload_n 0, 1) := by decide +kernel
theorem dX2_readPart_78 : decode cX2_readPart 78 = .ok (.bipush 41, 2) := by decide +kernel
theorem dX2_readPart_80 : decode cX2_readPart 80 = .ok (.invokevirtual 127, 3) := by decide +kernel
theorem dX2_readPart_83 : decode cX2_readPart 83 = .ok (.goto 34, 3) := by decide +kernel
theorem dX2_readPart_86 : decode cX2_readPart 86 = .ok (.iload_n 1, 1) := by decide +kernel
theorem dX2_readPart_87 : decode cX2_readPart 87 = .ok (.sipush 323, 3) := by decide +kernel
theorem dX2_readPart_90 : decode cX2_readPart 90 = .ok (.if_icmp .eq 10, 3) := by decide +kernel
theorem dX2_readPart_93 : decode cX2_readPart 93 = .ok (.iload_n 1, 1) := by decide +kernel
theorem dX2_readPart_94 : decode cX2_readPart 94 = .ok (.sipush 324, 3) := by decide +kernel
theorem dX2_readPart_97 : decode cX2_readPart 97 = .ok (.if_icmp .ne 11, 3) := by decide +kernel
theorem dX2_readPart_100 : decode cX2_readPart 100 = .ok (.aload_n 0, 1) := by decide +kernel
theorem dX2_readPart_101 : decode cX2_readPart 101 = .ok (.iload_n 1, 1) := by decide +kernel
theorem dX2_readPart_102 : decode cX2_readPart 102 = .ok (.invokevirtual 200, 3) := by decide +kernel
theorem dX2_readPart_105 : decode cX2_readPart 105 = .ok (.goto 12, 3) := by decide +kernel
theorem dX2_readPart_108 : decode cX2_readPart 108 = .ok (.aload_n 0, 1) := by decide +kernel
theorem dX2_readPart_109 : decode cX2_readPart 109 = .ok (.iconst 1, 1) := by decide +kernel
theorem dX2_readPart_110 : decode cX2_readPart 110 = .ok (.aload_n 0, 1) := by decide +kernel
theorem dX2_readPart_111 : decode cX2_readPart 111 = .ok (.getfield 73, 3) := by decide +kernel
theorem dX2_readPart_114 : decode cX2_readPart 114 = .ok (.invokevirtual 76, 3) := by decide +kernel
theorem dX2_readPart_117 : decode cX2_readPart 117 = .ok (.return_, 1) := by decide +kernel
set_option maxRecDepth 20000 in
theorem ggX2_readLeastOrGreatest_X2_step : GoodIn wsX2_readLeastOrGreatest wsX2_step := goodIn_r _ [9, 10, 11, 1, 12, 13, 2, 14, 15, 8, 16, 17, 18, 19, 20, 21, 22, 23, 24, 25, 26, 27, 28, 29, 30, 31, 32, 33, 34, 35, 36, 37, 38, 39, 40, 41, 42, 76, 77, 78, 79, 80, 81, 82, 83, 84, 85, 86] rfl (by decide +kernel)
set_option maxRecDepth 20000 in
theorem gX2_readLeastOrGreatest_X2_step : GoodIn wsX2_readLeastOrGreatest (wsV RX2 66 RX2 yX2_step wsX2_step) := goodIn_app (goodIn_of _ (by decide +kernel)) ggX2_readLeastOrGreatest_X2_step
set_option maxRecDepth 20000 in
theorem ggX2_readLeastOrGreatest_X2_blame : GoodIn wsX2_readLeastOrGreatest wsX2_blame := goodIn_r _ [34, 10, 35, 1, 76, 77, 78, 79, 80, 81, 82, 83, 84, 85, 86] rfl (by decide +kernel)
set_option maxRecDepth 20000 in
theorem gX2_readLeastOrGreatest_X2_blame : GoodIn wsX2_readLeastOrGreatest (wsV RX2 76 RX2 yX2_blame wsX2_blame) := goodIn_app (goodIn_of _ (by decide +kernel)) ggX2_readLeastOrGreatest_X2_blame
set_option maxRecDepth 20000 in
theorem ggX2_readLeastOrGreatest_X2_open : GoodIn wsX2_readLeastOrGreatest wsX2_open := goodIn_r _ [46, 3, 2, 31, 32, 33, 8, 34, 10, 35, 1, 5, 6, 7, 9, 11, 12, 13, 14, 15, 16, 17, 18, 19, 20, 21, 22, 23, 24, 25, 26, 27, 28, 29, 30, 36, 37, 38, 39, 40, 41, 42, 76, 77, 78, 79, 80, 81, 82, 83, 84, 85, 86] rfl (by decide +kernel)
set_option maxRecDepth 20000 in
theorem gX2_readLeastOrGreatest_X2_open : GoodIn wsX2_readLeastOrGreatest (wsV RX2 188 RX2 yX2_open wsX2_open) := goodIn_app (goodIn_of _ (by decide +kernel)) ggX2_readLeastOrGreatest_X2_open
set_option maxRecDepth 20000 in
theorem ggX2_readLeastOrGreatest_X2_readSum : GoodIn wsX2_readLeastOrGreatest wsX2_readSum := goodIn_r _ [72, 12, 1, 4, 73, 74, 75, 8, 5, 6, 7, 9, 10, 11, 13, 2, 14, 15, 16, 17, 18, 19, 20, 21, 22, 23, 24, 25, 26, 27, 28, 29, 30, 31, 32, 33, 34, 35, 36, 37, 38, 39, 40, 41, 42, 54, 55, 56, 57, 58, 59, 60, 0, 3, 43, 44, 45, 46, 47, 48, 49, 50, 51, 52, 53, 61, 62, 63, 64, 65, 66, 67, 68, 69, 70, 71, 76, 77, 78, 79, 80, 81, 82, 83, 84, 85, 86, 87, 88, 89, 90, 91, 92, 93, 94, 95, 96, 97, 98, 99, 100, 101, 102, 103, 104, 105, 106] rfl (by decide +kernel)
set_option maxRecDepth 20000 in
theorem gX2_readLeastOrGreatest_X2_readSum : GoodIn wsX2_readLeastOrGreatest (wsV RX2 121 RX2 yX2_readSum wsX2_readSum) := goodIn_app (goodIn_of _ (by decide +kernel)) ggX2_readLeastOrGreatest_X2_readSum
set_option maxRecDepth 20000 in
theorem ggX2_readLeastOrGreatest_X2_pass : GoodIn wsX2_readLeastOrGreatest wsX2_pass := goodIn_r _ [53, 1, 2, 31, 32, 33, 8, 34, 10, 35, 5, 6, 7, 9, 11, 12, 13, 14, 15, 16, 17, 18, 19, 20, 21, 22, 23, 24, 25, 26, 27, 28, 29, 30, 36, 37, 38, 39, 40, 41, 42, 76, 77, 78, 79, 80, 81, 82, 83, 84, 85, 86] rfl (by decide +kernel)
set_option maxRecDepth 20000 in
theorem gX2_readLeastOrGreatest_X2_pass : GoodIn wsX2_readLeastOrGreatest (wsV RX2 127 RX2 yX2_pass wsX2_pass) := goodIn_app (goodIn_of _ (by decide +kernel)) ggX2_readLeastOrGreatest_X2_pass
set_option maxRecDepth 20000 in
theorem ggX2_readLeastOrGreatest_X5_write : GoodIn wsX2_readLeastOrGreatest wsX5_write := goodIn_r _ [58, 59, 60, 87, 88, 89, 90, 91, 92, 93, 94, 95, 96, 97, 98, 99, 100, 101, 102, 103, 104, 105, 106] rfl (by decide +kernel)
set_option maxRecDepth 20000 in
theorem gX2_readLeastOrGreatest_X5_write : GoodIn wsX2_readLeastOrGreatest (wsV RX2 182 RX5 yX5_write wsX5_write) := goodIn_app (goodIn_of _ (by decide +kernel)) ggX2_readLeastOrGreatest_X5_write
theorem dX2_readLeastOrGreatest_0 : decode cX2_readLeastOrGreatest 0 = .ok (.aload_n 0, 1) := by decide +kernel
theorem dX2_readLeastOrGreatest_1 : decode cX2_readLeastOrGreatest 1 = .ok (.invokevirtual 66, 3) := by decide +kernel
theorem dX2_readLeastOrGreatest_4 : decode cX2_readLeastOrGreatest 4 = .ok (.aload_n 0, 1) := by decide +kernel
theorem dX2_readLeastOrGreatest_5 : decode cX2_readLeastOrGreatest 5 = .ok (.getfield 15, 3) := by decide +kernel
theorem dX2_readLeastOrGreatest_8 : decode cX2_readLeastOrGreatest 8 = .ok (.bipush 40, 2) := by decide +kernel
theorem dX2_readLeastOrGreatest_10 : decode cX2_readLeastOrGreatest 10 = .ok (.if_icmp .eq 13, 3) := by decide +kernel
theorem dX2_readLeastOrGreatest_13 : decode cX2_readLeastOrGreatest 13 = .ok (.aload_n 0, 1) := by decide +kernel
theorem dX2_readLeastOrGreatest_14 : decode cX2_readLeastOrGreatest 14 = .ok (.iconst 1, 1) := by decide +kernel
theorem dX2_readLeastOrGreatest_15 : decode cX2_readLeastOrGreatest 15 = .ok (.aload_n 0, 1) := by decide +kernel
theorem dX2_readLeastOrGreatest_16 : decode cX2_readLeastOrGreatest 16 = .ok (.getfield 73, 3) := by decide +kernel
theorem dX2_readLeastOrGreatest_19 : decode cX2_readLeastOrGreatest 19 = .ok (.invokevirtual 76, 3) := by decide +kernel
theorem dX2_readLeastOrGreatest_22 : decode cX2_readLeastOrGreatest 22 = .ok (.return_, 1) := by decide +kernel
theorem dX2_readLeastOrGreatest_23 : decode cX2_readLeastOrGreatest 23 = .ok (.aload_n 0, 1) := by decide +kernel
theorem dX2_readLeastOrGreatest_24 : decode cX2_readLeastOrGreatest 24 = .ok (.invokevirtual 188, 3) := by decide +kernel
theorem dX2_readLeastOrGreatest_27 : decode cX2_readLeastOrGreatest 27 = .ok (.aload_n 0, 1) := by decide +kernel
theorem dX2_readLeastOrGreatest_28 : decode cX2_readLeastOrGreatest 28 = .ok (.invokevirtual 121, 3) := by decide +kernel
theorem dX2_readLeastOrGreatest_31 : decode cX2_readLeastOrGreatest 31 = .ok (.aload_n 0, 1) := by decide +kernel
theorem dX2_readLeastOrGreatest_32 : decode cX2_readLeastOrGreatest 32 = .ok (.bipush 44, 2) := by decide +kernel
theorem dX2_readLeastOrGreatest_34 : decode cX2_readLeastOrGreatest 34 = .ok (.invokevirtual 127, 3) := by decide +kernel
theorem dX2_readLeastOrGreatest_37 : decode cX2_readLeastOrGreatest 37 = .ok (.aload_n 0, 1) := by decide +kernel
theorem dX2_readLeastOrGreatest_38 : decode cX2_readLeastOrGreatest 38 = .ok (.invokevirtual 121, 3) := by decide +kernel
theorem dX2_readLeastOrGreatest_41 : decode cX2_readLeastOrGreatest 41 = .ok (.aload_n 0, 1) := by decide +kernel
theorem dX2_readLeastOrGreatest_42 : decode cX2_readLeastOrGreatest 42 = .ok (.dup, 1) := by decide +kernel
theorem dX2_readLeastOrGreatest_43 : decode cX2_readLeastOrGreatest 43 = .ok (.getfield 60, 3) := by decide +kernel
theorem dX2_readLeastOrGreatest_46 : decode cX2_readLeastOrGreatest 46 = .ok (.iconst 1, 1) := by decide +kernel
theorem dX2_readLeastOrGreatest_47 : decode cX2_readLeastOrGreatest 47 = .ok (.isub, 1) := by decide +kernel
theorem dX2_readLeastOrGreatest_48 : decode cX2_readLeastOrGreatest 48 = .ok (.putfield 60, 3) := by decide +kernel
theorem dX2_readLeastOrGreatest_51 : decode cX2_readLeastOrGreatest 51 = .ok (.aload_n 0, 1) := by decide +kernel
theorem dX2_readLeastOrGreatest_52 : decode cX2_readLeastOrGreatest 52 = .ok (.bipush 41, 2) := by decide +kernel
theorem dX2_readLeastOrGreatest_54 : decode cX2_readLeastOrGreatest 54 = .ok (.invokevirtual 127, 3) := by decide +kernel
theorem dX2_readLeastOrGreatest_57 : decode cX2_readLeastOrGreatest 57 = .ok (.aload_n 0, 1) := by decide +kernel
theorem dX2_readLeastOrGreatest_58 : decode cX2_readLeastOrGreatest 58 = .ok (.getfield 26, 3) := by decide +kernel
theorem dX2_readLeastOrGreatest_61 : decode cX2_readLeastOrGreatest 61 = .ok (.iload_n 1, 1) := by decide +kernel
theorem dX2_readLeastOrGreatest_62 : decode cX2_readLeastOrGreatest 62 = .ok (.ineg, 1) := by decide +kernel
theorem dX2_readLeastOrGreatest_63 : decode cX2_readLeastOrGreatest 63 = .ok (.invokevirtual 182, 3) := by decide +kernel
theorem dX2_readLeastOrGreatest_66 : decode cX2_readLeastOrGreatest 66 = .ok (.return_, 1) := by decide +kernel
set_option maxRecDepth 20000 in
theorem ggX2_open_X2_blame : GoodIn wsX2_open wsX2_blame := goodIn_r _ [7, 8, 9, 10, 42, 43, 44, 45, 46, 47, 48, 49, 50, 51, 52] rfl (by decide +kernel)
set_option maxRecDepth 20000 in
theorem gX2_open_X2_blame : GoodIn wsX2_open (wsV RX2 76 RX2 yX2_blame wsX2_blame) := goodIn_app (goodIn_of _ (by decide +kernel)) ggX2_open_X2_blame
set_option maxRecDepth 20000 in
theorem ggX2_open_X2_step : GoodIn wsX2_open wsX2_step := goodIn_r _ [14, 8, 15, 10, 16, 17, 2, 18, 19, 6, 20, 21, 22, 23, 24, 25, 26, 27, 28, 29, 30, 31, 32, 33, 34, 3, 4, 5, 7, 9, 35, 36, 37, 38, 39, 40, 41, 42, 43, 44, 45, 46, 47, 48, 49, 50, 51, 52] rfl (by decide +kernel)
set_option maxRecDepth 20000 in
theorem gX2_open_X2_step : GoodIn wsX2_open (wsV RX2 66 RX2 yX2_step wsX2_step) := goodIn_app (goodIn_of _ (by decide +kernel)) ggX2_open_X2_step
theorem dX2_open_0 : decode cX2_open 0 = .ok (.aload_n 0, 1) := by decide +kernel
theorem dX2_open_1 : decode cX2_open 1 = .ok (.getfield 60, 3) := by decide +kernel
theorem dX2_open_4 : decode cX2_open 4 = .ok (.bipush 7, 2) := by decide +kernel
theorem dX2_open_6 : decode cX2_open 6 = .ok (.if_icmp .lt 12, 3) := by decide +kernel
theorem dX2_open_9 : decode cX2_open 9 = .ok (.aload_n 0, 1) := by decide +kernel
theorem dX2_open_10 : decode cX2_open 10 = .ok (.iconst 5, 1) := by decide +kernel
theorem dX2_open_11 : decode cX2_open 11 = .ok (.aload_n 0, 1) := by decide +kernel
theorem dX2_open_12 : decode cX2_open 12 = .ok (.getfield 73, 3) := by decide +kernel
theorem dX2_open_15 : decode cX2_open 15 = .ok (.invokevirtual 76, 3) := by decide +kernel
theorem dX2_open_18 : decode cX2_open 18 = .ok (.aload_n 0, 1) := by decide +kernel
theorem dX2_open_19 : decode cX2_open 19 = .ok (.dup, 1) := by decide +kernel
theorem dX2_open_20 : decode cX2_open 20 = .ok (.getfield 60, 3) := by decide +kernel
theorem dX2_open_23 : decode cX2_open 23 = .ok (.iconst 1, 1) := by decide +kernel
theorem dX2_open_24 : decode cX2_open 24 = .ok (.iadd, 1) := by decide +kernel
theorem dX2_open_25 : decode cX2_open 25 = .ok (.putfield 60, 3) := by decide +kernel
theorem dX2_open_28 : decode cX2_open 28 = .ok (.aload_n 0, 1) := by decide +kernel
theorem dX2_open_29 : decode cX2_open 29 = .ok (.invokevirtual 66, 3) := by decide +kernel
theorem dX2_open_32 : decode cX2_open 32 = .ok (.return_, 1) := by decide +kernel
set_option maxRecDepth 20000 in
theorem ggX2_pass_X2_blame : GoodIn wsX2_pass wsX2_blame := goodIn_r _ [7, 8, 9, 1, 41, 42, 43, 44, 45, 46, 47, 48, 49, 50, 51] rfl (by decide +kernel)
set_option maxRecDepth 20000 in
theorem gX2_pass_X2_blame : GoodIn wsX2_pass (wsV RX2 76 RX2 yX2_blame wsX2_blame) := goodIn_app (goodIn_of _ (by decide +kernel)) ggX2_pass_X2_blame
set_option maxRecDepth 20000 in
theorem ggX2_pass_X2_step : GoodIn wsX2_pass wsX2_step := goodIn_r _ [13, 8, 14, 1, 15, 16, 2, 17, 18, 6, 19, 20, 21, 22, 23, 24, 25, 26, 27, 28, 29, 30, 31, 32, 33, 3, 4, 5, 7, 9, 34, 35, 36, 37, 38, 39, 40, 41, 42, 43, 44, 45, 46, 47, 48, 49, 50, 51] rfl (by decide +kernel)
set_option maxRecDepth 20000 in
theorem gX2_pass_X2_step : GoodIn wsX2_pass (wsV RX2 66 RX2 yX2_step wsX2_step) := goodIn_app (goodIn_of _ (by decide +kernel)) ggX2_pass_X2_step
theorem dX2_pass_0 : decode cX2_pass 0 = .ok (.aload_n 0, 1) := by decide +kernel
theorem dX2_pass_1 : decode cX2_pass 1 = .ok (.getfield 15, 3) := by decide +kernel
theorem dX2_pass_4 : decode cX2_pass 4 = .ok (.iload_n 1, 1) := by decide +kernel
theorem dX2_pass_5 : decode cX2_pass 5 = .ok (.if_icmp .eq 12, 3) := by decide +kernel
theorem dX2_pass_8 : decode cX2_pass 8 = .ok (.aload_n 0, 1) := by decide +kernel
theorem dX2_pass_9 : decode cX2_pass 9 = .ok (.iconst 1, 1) := by decide +kernel
theorem dX2_pass_10 : decode cX2_pass 10 = .ok (.aload_n 0, 1) := by decide +kernel
theorem dX2_pass_11 : decode cX2_pass 11 = .ok (.getfield 73, 3) := by decide +kernel
theorem dX2_pass_14 : decode cX2_pass 14 = .ok (.invokevirtual 76, 3) := by decide +kernel
theorem dX2_pass_17 : decode cX2_pass 17 = .ok (.aload_n 0, 1) := by decide +kernel
theorem dX2_pass_18 : decode cX2_pass 18 = .ok (.invokevirtual 66, 3) := by decide +kernel
theorem dX2_pass_21 : decode cX2_pass 21 = .ok (.return_, 1) := by decide +kernel
theorem dX2_blame_0 : decode cX2_blame 0 = .ok (.aload_n 0, 1) := by decide +kernel
theorem dX2_blame_1 : decode cX2_blame 1 = .ok (.getfield 63, 3) := by decide +kernel
theorem dX2_blame_4 : decode cX2_blame 4 = .ok (.ifCond .ne 20, 3) := by decide +kernel
theorem dX2_blame_7 : decode cX2_blame 7 = .ok (.aload_n 0, 1) := by decide +kernel
theorem dX2_blame_8 : decode cX2_blame 8 = .ok (.iload_n 1, 1) := by decide +kernel
theorem dX2_blame_9 : decode cX2_blame 9 = .ok (.putfield 63, 3) := by decide +kernel
theorem dX2_blame_12 : decode cX2_blame 12 = .ok (.aload_n 0, 1) := by decide +kernel
theorem dX2_blame_13 : decode cX2_blame 13 = .ok (.iload_n 2, 1) := by decide +kernel
theorem dX2_blame_14 : decode cX2_blame 14 = .ok (.putfield 19, 3) := by decide +kernel
theorem dX2_blame_17 : decode cX2_blame 17 = .ok (.aload_n 0, 1) := by decide +kernel
theorem dX2_blame_18 : decode cX2_blame 18 = .ok (.sipush 259, 3) := by decide +kernel
theorem dX2_blame_21 : decode cX2_blame 21 = .ok (.putfield 15, 3) := by decide +kernel
theorem dX2_blame_24 : decode cX2_blame 24 = .ok (.return_, 1) := by decide +kernel
set_option maxRecDepth 20000 in
theorem ggX2_step_X2_isWhole : GoodIn wsX2_step wsX2_isWhole := goodIn_r _ [10] rfl (by decide +kernel)
set_option maxRecDepth 20000 in
theorem gX2_step_X2_isWhole : GoodIn wsX2_step (va_wsS RX2 203 yX2_isWhole wsX2_isWhole) := goodIn_app (goodIn_of _ (by decide +kernel)) ggX2_step_X2_isWhole
set_option maxRecDepth 20000 in
theorem ggX2_step_X2_isLetter : GoodIn wsX2_step wsX2_isLetter := goodIn_r _ [13] rfl (by decide +kernel)
set_option maxRecDepth 20000 in
theorem gX2_step_X2_isLetter : GoodIn wsX2_step (va_wsS RX2 206 yX2_isLetter wsX2_isLetter) := goodIn_app (goodIn_of _ (by decide +kernel)) ggX2_step_X2_isLetter
set_option maxRecDepth 20000 in
theorem ggX2_step_X2_readWord : GoodIn wsX2_step wsX2_readWord := goodIn_r _ [17, 2, 4, 5, 6, 18, 3, 19, 11, 12, 9, 13, 20, 21, 22, 23, 24, 25, 26, 27, 28, 1, 29, 37, 38, 39, 40, 41, 42, 43, 44, 45, 46, 47] rfl (by decide +kernel)
set_option maxRecDepth 20000 in
theorem gX2_step_X2_readWord : GoodIn wsX2_step (wsV RX2 209 RX2 yX2_readWord wsX2_readWord) := goodIn_app (goodIn_of _ (by decide +kernel)) ggX2_step_X2_readWord
set_option maxRecDepth 20000 in
theorem ggX2_step_X2_isDigit : GoodIn wsX2_step wsX2_isDigit := goodIn_r _ [32] rfl (by decide +kernel)
set_option maxRecDepth 20000 in
theorem gX2_step_X2_isDigit : GoodIn wsX2_step (va_wsS RX2 212 yX2_isDigit wsX2_isDigit) := goodIn_app (goodIn_of _ (by decide +kernel)) ggX2_step_X2_isDigit
set_option maxRecDepth 20000 in
theorem ggX2_step_X2_readNumber : GoodIn wsX2_step wsX2_readNumber := goodIn_r _ [36, 2, 4, 5, 6, 3, 19, 30, 31, 9, 32, 25, 26, 27, 28, 1, 29, 37, 38, 39, 40, 41, 42, 43, 44, 45, 46, 47] rfl (by decide +kernel)
set_option maxRecDepth 20000 in
theorem gX2_step_X2_readNumber : GoodIn wsX2_step (wsV RX2 215 RX2 yX2_readNumber wsX2_readNumber) := goodIn_app (goodIn_of _ (by decide +kernel)) ggX2_step_X2_readNumber
set_option maxRecDepth 20000 in
theorem ggX2_step_X2_blame : GoodIn wsX2_step wsX2_blame := goodIn_r _ [28, 1, 29, 3, 37, 38, 39, 40, 41, 42, 43, 44, 45, 46, 47] rfl (by decide +kernel)
set_option maxRecDepth 20000 in
theorem gX2_step_X2_blame : GoodIn wsX2_step (wsV RX2 76 RX2 yX2_blame wsX2_blame) := goodIn_app (goodIn_of _ (by decide +kernel)) ggX2_step_X2_blame
theorem dX2_step_0 : decode cX2_step 0 = .ok (.aload_n 0, 1) := by decide +kernel
theorem dX2_step_1 : decode cX2_step 1 = .ok (.getfield 63, 3) := by decide +kernel
theorem dX2_step_4 : decode cX2_step 4 = .ok (.ifCond .eq 4, 3) := by decide +kernel
theorem dX2_step_7 : decode cX2_step 7 = .ok (.return_, 1) := by decide +kernel
theorem dX2_step_8 : decode cX2_step 8 = .ok (.aload_n 0, 1) := by decide +kernel
theorem dX2_step_9 : decode cX2_step 9 = .ok (.getfield 57, 3) := by decide +kernel
theorem dX2_step_12 : decode cX2_step 12 = .ok (.istore_n 1, 1) := by decide +kernel
theorem dX2_step_13 : decode cX2_step 13 = .ok (.aload_n 0, 1) := by decide +kernel
theorem dX2_step_14 : decode cX2_step 14 = .ok (.getfield 15, 3) := by decide +kernel
theorem dX2_step_17 : decode cX2_step 17 = .ok (.invokestatic 203, 3) := by decide +kernel
theorem dX2_step_20 : decode cX2_step 20 = .ok (.istore_n 2, 1) := by decide +kernel
theorem dX2_step_21 : decode cX2_step 21 = .ok (.aload_n 0, 1) := by decide +kernel
theorem dX2_step_22 : decode cX2_step 22 = .ok (.getfield 57, 3) := by decide +kernel
theorem dX2_step_25 : decode cX2_step 25 = .ok (.aload_n 0, 1) := by decide +kernel
theorem dX2_step_26 : decode cX2_step 26 = .ok (.getfield 55, 3) := by decide +kernel
theorem dX2_step_29 : decode cX2_step 29 = .ok (.if_icmp .ge 44, 3) := by decide +kernel
theorem dX2_step_32 : decode cX2_step 32 = .ok (.aload_n 0, 1) := by decide +kernel
theorem dX2_step_33 : decode cX2_step 33 = .ok (.getfield 22, 3) := by decide +kernel
theorem dX2_step_36 : decode cX2_step 36 = .ok (.aload_n 0, 1) := by decide +kernel
theorem dX2_step_37 : decode cX2_step 37 = .ok (.getfield 57, 3) := by decide +kernel
theorem dX2_step_40 : decode cX2_step 40 = .ok (.iaload, 1) := by decide +kernel
theorem dX2_step_41 : decode cX2_step 41 = .ok (.bipush 32, 2) := by decide +kernel
theorem dX2_step_43 : decode cX2_step 43 = .ok (.if_icmp .eq 17, 3) := by decide +kernel
theorem dX2_step_46 : decode cX2_step 46 = .ok (.aload_n 0, 1) := by decide +kernel
theorem dX2_step_47 : decode cX2_step 47 = .ok (.getfield 22, 3) := by decide +kernel
theorem dX2_step_50 : decode cX2_step 50 = .ok (.aload_n 0, 1) := by decide +kernel
theorem dX2_step_51 : decode cX2_step 51 = .ok (.getfield 57, 3) := by decide +kernel
theorem dX2_step_54 : decode cX2_step 54 = .ok (.iaload, 1) := by decide +kernel
theorem dX2_step_55 : decode cX2_step 55 = .ok (.bipush 10, 2) := by decide +kernel
theorem dX2_step_57 : decode cX2_step 57 = .ok (.if_icmp .ne 16, 3) := by decide +kernel
theorem dX2_step_60 : decode cX2_step 60 = .ok (.aload_n 0, 1) := by decide +kernel
theorem dX2_step_61 : decode cX2_step 61 = .ok (.dup, 1) := by decide +kernel
theorem dX2_step_62 : decode cX2_step 62 = .ok (.getfield 57, 3) := by decide +kernel
theorem dX2_step_65 : decode cX2_step 65 = .ok (.iconst 1, 1) := by decide +kernel
theorem dX2_step_66 : decode cX2_step 66 = .ok (.iadd, 1) := by decide +kernel
theorem dX2_step_67 : decode cX2_step 67 = .ok (.putfield 57, 3) := by decide +kernel
theorem dX2_step_70 : decode cX2_step 70 = .ok (.goto (-49), 3) := by decide +kernel
theorem dX2_step_73 : decode cX2_step 73 = .ok (.aload_n 0, 1) := by decide +kernel
theorem dX2_step_74 : decode cX2_step 74 = .ok (.aload_n 0, 1) := by decide +kernel
theorem dX2_step_75 : decode cX2_step 75 = .ok (.getfield 57, 3) := by decide +kernel
theorem dX2_step_78 : decode cX2_step 78 = .ok (.putfield 73, 3) := by decide +kernel
theorem dX2_step_81 : decode cX2_step 81 = .ok (.aload_n 0, 1) := by decide +kernel
theorem dX2_step_82 : decode cX2_step 82 = .ok (.getfield 57, 3) := by decide +kernel
theorem dX2_step_85 : decode cX2_step 85 = .ok (.aload_n 0, 1) := by decide +kernel
theorem dX2_step_86 : decode cX2_step 86 = .ok (.getfield 55, 3) := by decide +kernel
theorem dX2_step_89 : decode cX2_step 89 = .ok (.if_icmp .lt 13, 3) := by decide +kernel
theorem dX2_step_92 : decode cX2_step 92 = .ok (.aload_n 0, 1) := by decide +kernel
theorem dX2_step_93 : decode cX2_step 93 = .ok (.sipush 256, 3) := by decide +kernel
theorem dX2_step_96 : decode cX2_step 96 = .ok (.putfield 15, 3) := by decide +kernel
theorem dX2_step_99 : decode cX2_step 99 = .ok (.goto 70, 3) := by decide +kernel
theorem dX2_step_102 : decode cX2_step 102 = .ok (.aload_n 0, 1) := by decide +kernel
theorem dX2_step_103 : decode cX2_step 103 = .ok (.getfield 22, 3) := by decide +kernel
theorem dX2_step_106 : decode cX2_step 106 = .ok (.aload_n 0, 1) := by decide +kernel
theorem dX2_step_107 : decode cX2_step 107 = .ok (.getfield 57, 3) := by decide +kernel
theorem dX2_step_110 : decode cX2_step 110 = .ok (.iaload, 1) := by decide +kernel
theorem dX2_step_111 : decode cX2_step 111 = .ok (.invokestatic 206, 3) := by decide +kernel
theorem dX2_step_114 : decode cX2_step 114 = .ok (.ifCond .eq 10, 3) := by decide +kernel
theorem dX2_step_117 : decode cX2_step 117 = .ok (.aload_n 0, 1) := by decide +kernel
theorem dX2_step_118 : decode cX2_step 118 = .ok (.invokevirtual 209, 3) := by decide +kernel
theorem dX2_step_121 : decode cX2_step 121 = .ok (.goto 48, 3) := by decide +kernel
theorem dX2_step_124 : decode cX2_step 124 = .ok (.aload_n 0, 1) := by decide +kernel
theorem dX2_step_125 : decode cX2_step 125 = .ok (.getfield 22, 3) := by decide +kernel
theorem dX2_step_128 : decode cX2_step 128 = .ok (.aload_n 0, 1) := by decide +kernel
theorem dX2_step_129 : decode cX2_step 129 = .ok (.getfield 57, 3) := by decide +kernel
theorem dX2_step_132 : decode cX2_step 132 = .ok (.iaload, 1) := by decide +kernel
theorem dX2_step_133 : decode cX2_step 133 = .ok (.invokestatic 212, 3) := by decide +kernel
theorem dX2_step_136 : decode cX2_step 136 = .ok (.ifCond .eq 10, 3) := by decide +kernel
theorem dX2_step_139 : decode cX2_step 139 = .ok (.aload_n 0, 1) := by decide +kernel
theorem dX2_step_140 : decode cX2_step 140 = .ok (.invokevirtual 215, 3) := by decide +kernel
theorem dX2_step_143 : decode cX2_step 143 = .ok (.goto 26, 3) := by decide +kernel
theorem dX2_step_146 : decode cX2_step 146 = .ok (.aload_n 0, 1) := by decide +kernel
theorem dX2_step_147 : decode cX2_step 147 = .ok (.aload_n 0, 1) := by decide +kernel
theorem dX2_step_148 : decode cX2_step 148 = .ok (.getfield 22, 3) := by decide +kernel
theorem dX2_step_151 : decode cX2_step 151 = .ok (.aload_n 0, 1) := by decide +kernel
theorem dX2_step_152 : decode cX2_step 152 = .ok (.getfield 57, 3) := by decide +kernel
theorem dX2_step_155 : decode cX2_step 155 = .ok (.iaload, 1) := by decide +kernel
theorem dX2_step_156 : decode cX2_step 156 = .ok (.putfield 15, 3) := by decide +kernel
theorem dX2_step_159 : decode cX2_step 159 = .ok (.aload_n 0, 1) := by decide +kernel
theorem dX2_step_160 : decode cX2_step 160 = .ok (.dup, 1) := by decide +kernel
theorem dX2_step_161 : decode cX2_step 161 = .ok (.getfield 57, 3) := by decide +kernel
theorem dX2_step_164 : decode cX2_step 164 = .ok (.iconst 1, 1) := by decide +kernel
theorem dX2_step_165 : decode cX2_step 165 = .ok (.iadd, 1) := by decide +kernel
theorem dX2_step_166 : decode cX2_step 166 = .ok (.putfield 57, 3) := by decide +kernel
theorem dX2_step_169 : decode cX2_step 169 = .ok (.iload_n 2, 1) := by decide +kernel
theorem dX2_step_170 : decode cX2_step 170 = .ok (.ifCond .eq 30, 3) := by decide +kernel
theorem dX2_step_173 : decode cX2_step 173 = .ok (.aload_n 0, 1) := by decide +kernel
theorem dX2_step_174 : decode cX2_step 174 = .ok (.getfield 73, 3) := by decide +kernel
theorem dX2_step_177 : decode cX2_step 177 = .ok (.iload_n 1, 1) := by decide +kernel
theorem dX2_step_178 : decode cX2_step 178 = .ok (.if_icmp .ne 22, 3) := by decide +kernel
theorem dX2_step_181 : decode cX2_step 181 = .ok (.aload_n 0, 1) := by decide +kernel
theorem dX2_step_182 : decode cX2_step 182 = .ok (.getfield 15, 3) := by decide +kernel
theorem dX2_step_185 : decode cX2_step 185 = .ok (.invokestatic 203, 3) := by decide +kernel
theorem dX2_step_188 : decode cX2_step 188 = .ok (.ifCond .eq 12, 3) := by decide +kernel
theorem dX2_step_191 : decode cX2_step 191 = .ok (.aload_n 0, 1) := by decide +kernel
theorem dX2_step_192 : decode cX2_step 192 = .ok (.iconst 1, 1) := by decide +kernel
theorem dX2_step_193 : decode cX2_step 193 = .ok (.aload_n 0, 1) := by decide +kernel
theorem dX2_step_194 : decode cX2_step 194 = .ok (.getfield 73, 3) := by decide +kernel
theorem dX2_step_197 : decode cX2_step 197 = .ok (.invokevirtual 76, 3) := by decide +kernel
theorem dX2_step_200 : decode cX2_step 200 = .ok (.return_, 1) := by decide +kernel
theorem dX2_isWhole_0 : decode cX2_isWhole 0 = .ok (.iload_n 0, 1) := by decide +kernel
theorem dX2_isWhole_1 : decode cX2_isWhole 1 = .ok (.sipush 257, 3) := by decide +kernel
theorem dX2_isWhole_4 : decode cX2_isWhole 4 = .ok (.if_icmp .eq 17, 3) := by decide +kernel
theorem dX2_isWhole_7 : decode cX2_isWhole 7 = .ok (.iload_n 0, 1) := by decide +kernel
theorem dX2_isWhole_8 : decode cX2_isWhole 8 = .ok (.sipush 258, 3) := by decide +kernel
theorem dX2_isWhole_11 : decode cX2_isWhole 11 = .ok (.if_icmp .eq 10, 3) := by decide +kernel
theorem dX2_isWhole_14 : decode cX2_isWhole 14 = .ok (.iload_n 0, 1) := by decide +kernel
theorem dX2_isWhole_15 : decode cX2_isWhole 15 = .ok (.sipush 300, 3) := by decide +kernel
theorem dX2_isWhole_18 : decode cX2_isWhole 18 = .ok (.if_icmp .lt 7, 3) := by decide +kernel
theorem dX2_isWhole_21 : decode cX2_isWhole 21 = .ok (.iconst 1, 1) := by decide +kernel
theorem dX2_isWhole_22 : decode cX2_isWhole 22 = .ok (.goto 4, 3) := by decide +kernel
theorem dX2_isWhole_25 : decode cX2_isWhole 25 = .ok (.iconst 0, 1) := by decide +kernel
theorem dX2_isWhole_26 : decode cX2_isWhole 26 = .ok (.ireturn, 1) := by decide +kernel
theorem dX2_isLetter_0 : decode cX2_isLetter 0 = .ok (.iload_n 0, 1) := by decide +kernel
theorem dX2_isLetter_1 : decode cX2_isLetter 1 = .ok (.bipush 97, 2) := by decide +kernel
theorem dX2_isLetter_3 : decode cX2_isLetter 3 = .ok (.if_icmp .lt 13, 3) := by decide +kernel
theorem dX2_isLetter_6 : decode cX2_isLetter 6 = .ok (.iload_n 0, 1) := by decide +kernel
theorem dX2_isLetter_7 : decode cX2_isLetter 7 = .ok (.bipush 122, 2) := by decide +kernel
theorem dX2_isLetter_9 : decode cX2_isLetter 9 = .ok (.if_icmp .gt 7, 3) := by decide +kernel
theorem dX2_isLetter_12 : decode cX2_isLetter 12 = .ok (.iconst 1, 1) := by decide +kernel
theorem dX2_isLetter_13 : decode cX2_isLetter 13 = .ok (.goto 4, 3) := by decide +kernel
theorem dX2_isLetter_16 : decode cX2_isLetter 16 = .ok (.iconst 0, 1) := by decide +kernel
theorem dX2_isLetter_17 : decode cX2_isLetter 17 = .ok (.ireturn, 1) := by decide +kernel
theorem dX2_isDigit_0 : decode cX2_isDigit 0 = .ok (.iload_n 0, 1) := by decide +kernel
theorem dX2_isDigit_1 : decode cX2_isDigit 1 = .ok (.bipush 48, 2) := by decide +kernel
theorem dX2_isDigit_3 : decode cX2_isDigit 3 = .ok (.if_icmp .lt 13, 3) := by decide +kernel
theorem dX2_isDigit_6 : decode cX2_isDigit 6 = .ok (.iload_n 0, 1) := by decide +kernel
theorem dX2_isDigit_7 : decode cX2_isDigit 7 = .ok (.bipush 57, 2) := by decide +kernel
theorem dX2_isDigit_9 : decode cX2_isDigit 9 = .ok (.if_icmp .gt 7, 3) := by decide +kernel
theorem dX2_isDigit_12 : decode cX2_isDigit 12 = .ok (.iconst 1, 1) := by decide +kernel
theorem dX2_isDigit_13 : decode cX2_isDigit 13 = .ok (.goto 4, 3) := by decide +kernel
theorem dX2_isDigit_16 : decode cX2_isDigit 16 = .ok (.iconst 0, 1) := by decide +kernel
theorem dX2_isDigit_17 : decode cX2_isDigit 17 = .ok (.ireturn, 1) := by decide +kernel
set_option maxRecDepth 20000 in
theorem ggX2_readWord_X2_isLetter : GoodIn wsX2_readWord wsX2_isLetter := goodIn_r _ [11] rfl (by decide +kernel)
set_option maxRecDepth 20000 in
theorem gX2_readWord_X2_isLetter : GoodIn wsX2_readWord (va_wsS RX2 206 yX2_isLetter wsX2_isLetter) := goodIn_app (goodIn_of _ (by decide +kernel)) ggX2_readWord_X2_isLetter
set_option maxRecDepth 20000 in
theorem ggX2_readWord_X2_ownIndex : GoodIn wsX2_readWord wsX2_ownIndex := goodIn_r _ [15, 16, 23, 24, 25, 26, 27, 28, 29, 30, 31, 32, 33] rfl (by decide +kernel)
set_option maxRecDepth 20000 in
theorem gX2_readWord_X2_ownIndex : GoodIn wsX2_readWord (wsV RX2 218 RX2 yX2_ownIndex wsX2_ownIndex) := goodIn_app (goodIn_of _ (by decide +kernel)) ggX2_readWord_X2_ownIndex
set_option maxRecDepth 20000 in
theorem ggX2_readWord_X2_blame : GoodIn wsX2_readWord wsX2_blame := goodIn_r _ [20, 21, 22, 6, 23, 24, 25, 26, 27, 28, 29, 30, 31, 32, 33] rfl (by decide +kernel)
set_option maxRecDepth 20000 in
theorem gX2_readWord_X2_blame : GoodIn wsX2_readWord (wsV RX2 76 RX2 yX2_blame wsX2_blame) := goodIn_app (goodIn_of _ (by decide +kernel)) ggX2_readWord_X2_blame
theorem dX2_readWord_0 : decode cX2_readWord 0 = .ok (.lconst 0, 1) := by decide +kernel
theorem dX2_readWord_1 : decode cX2_readWord 1 = .ok (.lstore_n 1, 1) := by decide +kernel
theorem dX2_readWord_2 : decode cX2_readWord 2 = .ok (.lconst 1, 1) := by decide +kernel
theorem dX2_readWord_3 : decode cX2_readWord 3 = .ok (.lstore_n 3, 1) := by decide +kernel
theorem dX2_readWord_4 : decode cX2_readWord 4 = .ok (.aload_n 0, 1) := by decide +kernel
theorem dX2_readWord_5 : decode cX2_readWord 5 = .ok (.getfield 57, 3) := by decide +kernel
theorem dX2_readWord_8 : decode cX2_readWord 8 = .ok (.aload_n 0, 1) := by decide +kernel
theorem dX2_readWord_9 : decode cX2_readWord 9 = .ok (.getfield 55, 3) := by decide +kernel
theorem dX2_readWord_12 : decode cX2_readWord 12 = .ok (.if_icmp .ge 71, 3) := by decide +kernel
theorem dX2_readWord_15 : decode cX2_readWord 15 = .ok (.aload_n 0, 1) := by decide +kernel
theorem dX2_readWord_16 : decode cX2_readWord 16 = .ok (.getfield 22, 3) := by decide +kernel
theorem dX2_readWord_19 : decode cX2_readWord 19 = .ok (.aload_n 0, 1) := by decide +kernel
theorem dX2_readWord_20 : decode cX2_readWord 20 = .ok (.getfield 57, 3) := by decide +kernel
theorem dX2_readWord_23 : decode cX2_readWord 23 = .ok (.iaload, 1) := by decide +kernel
theorem dX2_readWord_24 : decode cX2_readWord 24 = .ok (.invokestatic 206, 3) := by decide +kernel
theorem dX2_readWord_27 : decode cX2_readWord 27 = .ok (.ifCond .eq 56, 3) := by decide +kernel
theorem dX2_readWord_30 : decode cX2_readWord 30 = .ok (.aload_n 0, 1) := by decide +kernel
theorem dX2_readWord_31 : decode cX2_readWord 31 = .ok (.getfield 57, 3) := by decide +kernel
theorem dX2_readWord_34 : decode cX2_readWord 34 = .ok (.aload_n 0, 1) := by decide +kernel
theorem dX2_readWord_35 : decode cX2_readWord 35 = .ok (.getfield 73, 3) := by decide +kernel
theorem dX2_readWord_38 : decode cX2_readWord 38 = .ok (.isub, 1) := by decide +kernel
theorem dX2_readWord_39 : decode cX2_readWord 39 = .ok (.bipush 7, 2) := by decide +kernel
theorem dX2_readWord_41 : decode cX2_readWord 41 = .ok (.if_icmp .ge 29, 3) := by decide +kernel
theorem dX2_readWord_44 : decode cX2_readWord 44 = .ok (.lload_n 1, 1) := by decide +kernel
theorem dX2_readWord_45 : decode cX2_readWord 45 = .ok (.aload_n 0, 1) := by decide +kernel
theorem dX2_readWord_46 : decode cX2_readWord 46 = .ok (.getfield 22, 3) := by decide +kernel
theorem dX2_readWord_49 : decode cX2_readWord 49 = .ok (.aload_n 0, 1) := by decide +kernel
theorem dX2_readWord_50 : decode cX2_readWord 50 = .ok (.getfield 57, 3) := by decide +kernel
theorem dX2_readWord_53 : decode cX2_readWord 53 = .ok (.iaload, 1) := by decide +kernel
theorem dX2_readWord_54 : decode cX2_readWord 54 = .ok (.bipush 97, 2) := by decide +kernel
theorem dX2_readWord_56 : decode cX2_readWord 56 = .ok (.isub, 1) := by decide +kernel
theorem dX2_readWord_57 : decode cX2_readWord 57 = .ok (.iconst 1, 1) := by decide +kernel
theorem dX2_readWord_58 : decode cX2_readWord 58 = .ok (.iadd, 1) := by decide +kernel
theorem dX2_readWord_59 : decode cX2_readWord 59 = .ok (.i2l, 1) := by decide +kernel
theorem dX2_readWord_60 : decode cX2_readWord 60 = .ok (.lload_n 3, 1) := by decide +kernel
theorem dX2_readWord_61 : decode cX2_readWord 61 = .ok (.lmul, 1) := by decide +kernel
theorem dX2_readWord_62 : decode cX2_readWord 62 = .ok (.ladd, 1) := by decide +kernel
theorem dX2_readWord_63 : decode cX2_readWord 63 = .ok (.lstore_n 1, 1) := by decide +kernel
theorem dX2_readWord_64 : decode cX2_readWord 64 = .ok (.lload_n 3, 1) := by decide +kernel
theorem dX2_readWord_65 : decode cX2_readWord 65 = .ok (.ldc2_w 42, 3) := by decide +kernel
theorem dX2_readWord_68 : decode cX2_readWord 68 = .ok (.lmul, 1) := by decide +kernel
theorem dX2_readWord_69 : decode cX2_readWord 69 = .ok (.lstore_n 3, 1) := by decide +kernel
theorem dX2_readWord_70 : decode cX2_readWord 70 = .ok (.aload_n 0, 1) := by decide +kernel
theorem dX2_readWord_71 : decode cX2_readWord 71 = .ok (.dup, 1) := by decide +kernel
theorem dX2_readWord_72 : decode cX2_readWord 72 = .ok (.getfield 57, 3) := by decide +kernel
theorem dX2_readWord_75 : decode cX2_readWord 75 = .ok (.iconst 1, 1) := by decide +kernel
theorem dX2_readWord_76 : decode cX2_readWord 76 = .ok (.iadd, 1) := by decide +kernel
theorem dX2_readWord_77 : decode cX2_readWord 77 = .ok (.putfield 57, 3) := by decide +kernel
theorem dX2_readWord_80 : decode cX2_readWord 80 = .ok (.goto (-76), 3) := by decide +kernel
theorem dX2_readWord_83 : decode cX2_readWord 83 = .ok (.aload_n 0, 1) := by decide +kernel
theorem dX2_readWord_84 : decode cX2_readWord 84 = .ok (.getfield 57, 3) := by decide +kernel
theorem dX2_readWord_87 : decode cX2_readWord 87 = .ok (.aload_n 0, 1) := by decide +kernel
theorem dX2_readWord_88 : decode cX2_readWord 88 = .ok (.getfield 73, 3) := by decide +kernel
theorem dX2_readWord_91 : decode cX2_readWord 91 = .ok (.isub, 1) := by decide +kernel
theorem dX2_readWord_92 : decode cX2_readWord 92 = .ok (.istore 5, 2) := by decide +kernel
theorem dX2_readWord_94 : decode cX2_readWord 94 = .ok (.iload 5, 2) := by decide +kernel
theorem dX2_readWord_96 : decode cX2_readWord 96 = .ok (.bipush 7, 2) := by decide +kernel
theorem dX2_readWord_98 : decode cX2_readWord 98 = .ok (.if_icmp .le 7, 3) := by decide +kernel
theorem dX2_readWord_101 : decode cX2_readWord 101 = .ok (.iconst (-1), 1) := by decide +kernel
theorem dX2_readWord_102 : decode cX2_readWord 102 = .ok (.goto 8, 3) := by decide +kernel
theorem dX2_readWord_105 : decode cX2_readWord 105 = .ok (.aload_n 0, 1) := by decide +kernel
theorem dX2_readWord_106 : decode cX2_readWord 106 = .ok (.lload_n 1, 1) := by decide +kernel
theorem dX2_readWord_107 : decode cX2_readWord 107 = .ok (.invokevirtual 218, 3) := by decide +kernel
theorem dX2_readWord_110 : decode cX2_readWord 110 = .ok (.istore 6, 2) := by decide +kernel
theorem dX2_readWord_112 : decode cX2_readWord 112 = .ok (.iload 6, 2) := by decide +kernel
theorem dX2_readWord_114 : decode cX2_readWord 114 = .ok (.ifCond .lt 16, 3) := by decide +kernel
theorem dX2_readWord_117 : decode cX2_readWord 117 = .ok (.aload_n 0, 1) := by decide +kernel
theorem dX2_readWord_118 : decode cX2_readWord 118 = .ok (.sipush 300, 3) := by decide +kernel
theorem dX2_readWord_121 : decode cX2_readWord 121 = .ok (.iload 6, 2) := by decide +kernel
theorem dX2_readWord_123 : decode cX2_readWord 123 = .ok (.iadd, 1) := by decide +kernel
theorem dX2_readWord_124 : decode cX2_readWord 124 = .ok (.putfield 15, 3) := by decide +kernel
theorem dX2_readWord_127 : decode cX2_readWord 127 = .ok (.goto 38, 3) := by decide +kernel
theorem dX2_readWord_130 : decode cX2_readWord 130 = .ok (.iload 5, 2) := by decide +kernel
theorem dX2_readWord_132 : decode cX2_readWord 132 = .ok (.bipush 6, 2) := by decide +kernel
theorem dX2_readWord_134 : decode cX2_readWord 134 = .ok (.if_icmp .le 18, 3) := by decide +kernel
theorem dX2_readWord_137 : decode cX2_readWord 137 = .ok (.aload_n 0, 1) := by decide +kernel
theorem dX2_readWord_138 : decode cX2_readWord 138 = .ok (.iconst 1, 1) := by decide +kernel
theorem dX2_readWord_139 : decode cX2_readWord 139 = .ok (.aload_n 0, 1) := by decide +kernel
theorem dX2_readWord_140 : decode cX2_readWord 140 = .ok (.getfield 73, 3) := by decide +kernel
theorem dX2_readWord_143 : decode cX2_readWord 143 = .ok (.bipush 6, 2) := by decide +kernel
theorem dX2_readWord_145 : decode cX2_readWord 145 = .ok (.iadd, 1) := by decide +kernel
theorem dX2_readWord_146 : decode cX2_readWord 146 = .ok (.invokevirtual 76, 3) := by decide +kernel
theorem dX2_readWord_149 : decode cX2_readWord 149 = .ok (.goto 16, 3) := by decide +kernel
theorem dX2_readWord_152 : decode cX2_readWord 152 = .ok (.aload_n 0, 1) := by decide +kernel
theorem dX2_readWord_153 : decode cX2_readWord 153 = .ok (.sipush 258, 3) := by decide +kernel
theorem dX2_readWord_156 : decode cX2_readWord 156 = .ok (.putfield 15, 3) := by decide +kernel
theorem dX2_readWord_159 : decode cX2_readWord 159 = .ok (.aload_n 0, 1) := by decide +kernel
theorem dX2_readWord_160 : decode cX2_readWord 160 = .ok (.lload_n 1, 1) := by decide +kernel
theorem dX2_readWord_161 : decode cX2_readWord 161 = .ok (.l2i, 1) := by decide +kernel
theorem dX2_readWord_162 : decode cX2_readWord 162 = .ok (.putfield 172, 3) := by decide +kernel
theorem dX2_readWord_165 : decode cX2_readWord 165 = .ok (.return_, 1) := by decide +kernel
theorem dX2_ownIndex_0 : decode cX2_ownIndex 0 = .ok (.iconst 0, 1) := by decide +kernel
theorem dX2_ownIndex_1 : decode cX2_ownIndex 1 = .ok (.istore_n 3, 1) := by decide +kernel
theorem dX2_ownIndex_2 : decode cX2_ownIndex 2 = .ok (.iload_n 3, 1) := by decide +kernel
theorem dX2_ownIndex_3 : decode cX2_ownIndex 3 = .ok (.aload_n 0, 1) := by decide +kernel
theorem dX2_ownIndex_4 : decode cX2_ownIndex 4 = .ok (.getfield 9, 3) := by decide +kernel
theorem dX2_ownIndex_7 : decode cX2_ownIndex 7 = .ok (.arraylength, 1) := by decide +kernel
theorem dX2_ownIndex_8 : decode cX2_ownIndex 8 = .ok (.if_icmp .ge 22, 3) := by decide +kernel
theorem dX2_ownIndex_11 : decode cX2_ownIndex 11 = .ok (.aload_n 0, 1) := by decide +kernel
theorem dX2_ownIndex_12 : decode cX2_ownIndex 12 = .ok (.getfield 9, 3) := by decide +kernel
theorem dX2_ownIndex_15 : decode cX2_ownIndex 15 = .ok (.iload_n 3, 1) := by decide +kernel
theorem dX2_ownIndex_16 : decode cX2_ownIndex 16 = .ok (.laload, 1) := by decide +kernel
theorem dX2_ownIndex_17 : decode cX2_ownIndex 17 = .ok (.lload_n 1, 1) := by decide +kernel
theorem dX2_ownIndex_18 : decode cX2_ownIndex 18 = .ok (.lcmp, 1) := by decide +kernel
theorem dX2_ownIndex_19 : decode cX2_ownIndex 19 = .ok (.ifCond .ne 5, 3) := by decide +kernel
theorem dX2_ownIndex_22 : decode cX2_ownIndex 22 = .ok (.iload_n 3, 1) := by decide +kernel
theorem dX2_ownIndex_23 : decode cX2_ownIndex 23 = .ok (.ireturn, 1) := by decide +kernel
theorem dX2_ownIndex_24 : decode cX2_ownIndex 24 = .ok (.iinc 3 1, 3) := by decide +kernel
theorem dX2_ownIndex_27 : decode cX2_ownIndex 27 = .ok (.goto (-25), 3) := by decide +kernel
theorem dX2_ownIndex_30 : decode cX2_ownIndex 30 = .ok (.iconst (-1), 1) := by decide +kernel
theorem dX2_ownIndex_31 : decode cX2_ownIndex 31 = .ok (.ireturn, 1) := by decide +kernel
set_option maxRecDepth 20000 in
theorem ggX2_readNumber_X2_isDigit : GoodIn wsX2_readNumber wsX2_isDigit := goodIn_r _ [10] rfl (by decide +kernel)
set_option maxRecDepth 20000 in
theorem gX2_readNumber_X2_isDigit : GoodIn wsX2_readNumber (va_wsS RX2 212 yX2_isDigit wsX2_isDigit) := goodIn_app (goodIn_of _ (by decide +kernel)) ggX2_readNumber_X2_isDigit
set_option maxRecDepth 20000 in
theorem ggX2_readNumber_X2_blame : GoodIn wsX2_readNumber wsX2_blame := goodIn_r _ [14, 15, 16, 5, 17, 18, 19, 20, 21, 22, 23, 24, 25, 26, 27] rfl (by decide +kernel)
set_option maxRecDepth 20000 in
theorem gX2_readNumber_X2_blame : GoodIn wsX2_readNumber (wsV RX2 76 RX2 yX2_blame wsX2_blame) := goodIn_app (goodIn_of _ (by decide +kernel)) ggX2_readNumber_X2_blame
theorem dX2_readNumber_0 : decode cX2_readNumber 0 = .ok (.iconst 0, 1) := by decide +kernel
theorem dX2_readNumber_1 : decode cX2_readNumber 1 = .ok (.istore_n 1, 1) := by decide +kernel
theorem dX2_readNumber_2 : decode cX2_readNumber 2 = .ok (.aload_n 0, 1) := by decide +kernel
theorem dX2_readNumber_3 : decode cX2_readNumber 3 = .ok (.getfield 57, 3) := by decide +kernel
theorem dX2_readNumber_6 : decode cX2_readNumber 6 = .ok (.aload_n 0, 1) := by decide +kernel
theorem dX2_readNumber_7 : decode cX2_readNumber 7 = .ok (.getfield 55, 3) := by decide +kernel
theorem dX2_readNumber_10 : decode cX2_readNumber 10 = .ok (.if_icmp .ge 62, 3) := by decide +kernel
theorem dX2_readNumber_13 : decode cX2_readNumber 13 = .ok (.aload_n 0, 1) := by decide +kernel
theorem dX2_readNumber_14 : decode cX2_readNumber 14 = .ok (.getfield 22, 3) := by decide +kernel
theorem dX2_readNumber_17 : decode cX2_readNumber 17 = .ok (.aload_n 0, 1) := by decide +kernel
theorem dX2_readNumber_18 : decode cX2_readNumber 18 = .ok (.getfield 57, 3) := by decide +kernel
theorem dX2_readNumber_21 : decode cX2_readNumber 21 = .ok (.iaload, 1) := by decide +kernel
theorem dX2_readNumber_22 : decode cX2_readNumber 22 = .ok (.invokestatic 212, 3) := by decide +kernel
theorem dX2_readNumber_25 : decode cX2_readNumber 25 = .ok (.ifCond .eq 47, 3) := by decide +kernel
theorem dX2_readNumber_28 : decode cX2_readNumber 28 = .ok (.aload_n 0, 1) := by decide +kernel
theorem dX2_readNumber_29 : decode cX2_readNumber 29 = .ok (.getfield 57, 3) := by decide +kernel
theorem dX2_readNumber_32 : decode cX2_readNumber 32 = .ok (.aload_n 0, 1) := by decide +kernel
theorem dX2_readNumber_33 : decode cX2_readNumber 33 = .ok (.getfield 73, 3) := by decide +kernel
theorem dX2_readNumber_36 : decode cX2_readNumber 36 = .ok (.isub, 1) := by decide +kernel
theorem dX2_readNumber_37 : decode cX2_readNumber 37 = .ok (.iconst 4, 1) := by decide +kernel
theorem dX2_readNumber_38 : decode cX2_readNumber 38 = .ok (.if_icmp .ge 21, 3) := by decide +kernel
theorem dX2_readNumber_41 : decode cX2_readNumber 41 = .ok (.iload_n 1, 1) := by decide +kernel
theorem dX2_readNumber_42 : decode cX2_readNumber 42 = .ok (.bipush 10, 2) := by decide +kernel
theorem dX2_readNumber_44 : decode cX2_readNumber 44 = .ok (.imul, 1) := by decide +kernel
theorem dX2_readNumber_45 : decode cX2_readNumber 45 = .ok (.aload_n 0, 1) := by decide +kernel
theorem dX2_readNumber_46 : decode cX2_readNumber 46 = .ok (.getfield 22, 3) := by decide +kernel
theorem dX2_readNumber_49 : decode cX2_readNumber 49 = .ok (.aload_n 0, 1) := by decide +kernel
theorem dX2_readNumber_50 : decode cX2_readNumber 50 = .ok (.getfield 57, 3) := by decide +kernel
theorem dX2_readNumber_53 : decode cX2_readNumber 53 = .ok (.iaload, 1) := by decide +kernel
theorem dX2_readNumber_54 : decode cX2_readNumber 54 = .ok (.iadd, 1) := by decide +kernel
theorem dX2_readNumber_55 : decode cX2_readNumber 55 = .ok (.bipush 48, 2) := by decide +kernel
theorem dX2_readNumber_57 : decode cX2_readNumber 57 = .ok (.isub, 1) := by decide +kernel
theorem dX2_readNumber_58 : decode cX2_readNumber 58 = .ok (.istore_n 1, 1) := by decide +kernel
theorem dX2_readNumber_59 : decode cX2_readNumber 59 = .ok (.aload_n 0, 1) := by decide +kernel
theorem dX2_readNumber_60 : decode cX2_readNumber 60 = .ok (.dup, 1) := by decide +kernel
theorem dX2_readNumber_61 : decode cX2_readNumber 61 = .ok (.getfield 57, 3) := by decide +kernel
theorem dX2_readNumber_64 : decode cX2_readNumber 64 = .ok (.iconst 1, 1) := by decide +kernel
theorem dX2_readNumber_65 : decode cX2_readNumber 65 = .ok (.iadd, 1) := by decide +kernel
theorem dX2_readNumber_66 : decode cX2_readNumber 66 = .ok (.putfield 57, 3) := by decide +kernel
theorem dX2_readNumber_69 : decode cX2_readNumber 69 = .ok (.goto (-67), 3) := by decide +kernel
theorem dX2_readNumber_72 : decode cX2_readNumber 72 = .ok (.aload_n 0, 1) := by decide +kernel
theorem dX2_readNumber_73 : decode cX2_readNumber 73 = .ok (.getfield 57, 3) := by decide +kernel
theorem dX2_readNumber_76 : decode cX2_readNumber 76 = .ok (.aload_n 0, 1) := by decide +kernel
theorem dX2_readNumber_77 : decode cX2_readNumber 77 = .ok (.getfield 73, 3) := by decide +kernel
theorem dX2_readNumber_80 : decode cX2_readNumber 80 = .ok (.isub, 1) := by decide +kernel
theorem dX2_readNumber_81 : decode cX2_readNumber 81 = .ok (.iconst 4, 1) := by decide +kernel
theorem dX2_readNumber_82 : decode cX2_readNumber 82 = .ok (.if_icmp .le 17, 3) := by decide +kernel
theorem dX2_readNumber_85 : decode cX2_readNumber 85 = .ok (.aload_n 0, 1) := by decide +kernel
theorem dX2_readNumber_86 : decode cX2_readNumber 86 = .ok (.iconst 1, 1) := by decide +kernel
theorem dX2_readNumber_87 : decode cX2_readNumber 87 = .ok (.aload_n 0, 1) := by decide +kernel
theorem dX2_readNumber_88 : decode cX2_readNumber 88 = .ok (.getfield 73, 3) := by decide +kernel
theorem dX2_readNumber_91 : decode cX2_readNumber 91 = .ok (.iconst 4, 1) := by decide +kernel
theorem dX2_readNumber_92 : decode cX2_readNumber 92 = .ok (.iadd, 1) := by decide +kernel
theorem dX2_readNumber_93 : decode cX2_readNumber 93 = .ok (.invokevirtual 76, 3) := by decide +kernel
theorem dX2_readNumber_96 : decode cX2_readNumber 96 = .ok (.goto 15, 3) := by decide +kernel
theorem dX2_readNumber_99 : decode cX2_readNumber 99 = .ok (.aload_n 0, 1) := by decide +kernel
theorem dX2_readNumber_100 : decode cX2_readNumber 100 = .ok (.sipush 257, 3) := by decide +kernel
theorem dX2_readNumber_103 : decode cX2_readNumber 103 = .ok (.putfield 15, 3) := by decide +kernel
theorem dX2_readNumber_106 : decode cX2_readNumber 106 = .ok (.aload_n 0, 1) := by decide +kernel
theorem dX2_readNumber_107 : decode cX2_readNumber 107 = .ok (.iload_n 1, 1) := by decide +kernel
theorem dX2_readNumber_108 : decode cX2_readNumber 108 = .ok (.putfield 172, 3) := by decide +kernel
theorem dX2_readNumber_111 : decode cX2_readNumber 111 = .ok (.return_, 1) := by decide +kernel
set_option maxRecDepth 20000 in
theorem ggX3_init_X0_init : GoodIn wsX3_init wsX0_init := goodIn_r _ [16, 17, 2, 3] rfl (by decide +kernel)
set_option maxRecDepth 20000 in
theorem gX3_init_X0_init_n27 : GoodIn wsX3_init (wsX0_init) := ggX3_init_X0_init
theorem dX3_init_0 : decode cX3_init 0 = .ok (.aload_n 0, 1) := by decide +kernel
theorem dX3_init_1 : decode cX3_init 1 = .ok (.invokespecial 3, 3) := by decide +kernel
theorem dX3_init_4 : decode cX3_init 4 = .ok (.aload_n 0, 1) := by decide +kernel
theorem dX3_init_5 : decode cX3_init 5 = .ok (.iconst 5, 1) := by decide +kernel
theorem dX3_init_6 : decode cX3_init 6 = .ok (.newarray .int, 2) := by decide +kernel
theorem dX3_init_8 : decode cX3_init 8 = .ok (.putfield 9, 3) := by decide +kernel
theorem dX3_init_11 : decode cX3_init 11 = .ok (.aload_n 0, 1) := by decide +kernel
theorem dX3_init_12 : decode cX3_init 12 = .ok (.bipush 20, 2) := by decide +kernel
theorem dX3_init_14 : decode cX3_init 14 = .ok (.newarray .int, 2) := by decide +kernel
theorem dX3_init_16 : decode cX3_init 16 = .ok (.putfield 15, 3) := by decide +kernel
theorem dX3_init_19 : decode cX3_init 19 = .ok (.aload_n 0, 1) := by decide +kernel
theorem dX3_init_20 : decode cX3_init 20 = .ok (.iconst 5, 1) := by decide +kernel
theorem dX3_init_21 : decode cX3_init 21 = .ok (.newarray .boolean, 2) := by decide +kernel
theorem dX3_init_23 : decode cX3_init 23 = .ok (.putfield 18, 3) := by decide +kernel
theorem dX3_init_26 : decode cX3_init 26 = .ok (.aload_n 0, 1) := by decide +kernel
theorem dX3_init_27 : decode cX3_init 27 = .ok (.iconst 4, 1) := by decide +kernel
theorem dX3_init_28 : decode cX3_init 28 = .ok (.newarray .int, 2) := by decide +kernel
theorem dX3_init_30 : decode cX3_init 30 = .ok (.putfield 22, 3) := by decide +kernel
theorem dX3_init_33 : decode cX3_init 33 = .ok (.aload_n 0, 1) := by decide +kernel
theorem dX3_init_34 : decode cX3_init 34 = .ok (.new 25, 3) := by decide +kernel
theorem dX3_init_37 : decode cX3_init 37 = .ok (.dup, 1) := by decide +kernel
theorem dX3_init_38 : decode cX3_init 38 = .ok (.invokespecial 27, 3) := by decide +kernel
theorem dX3_init_41 : decode cX3_init 41 = .ok (.putfield 28, 3) := by decide +kernel
theorem dX3_init_44 : decode cX3_init 44 = .ok (.aload_n 0, 1) := by decide +kernel
theorem dX3_init_45 : decode cX3_init 45 = .ok (.aload_n 1, 1) := by decide +kernel
theorem dX3_init_46 : decode cX3_init 46 = .ok (.putfield 32, 3) := by decide +kernel
theorem dX3_init_49 : decode cX3_init 49 = .ok (.return_, 1) := by decide +kernel
theorem dX3_forget_0 : decode cX3_forget 0 = .ok (.iconst 0, 1) := by decide +kernel
theorem dX3_forget_1 : decode cX3_forget 1 = .ok (.istore_n 1, 1) := by decide +kernel
theorem dX3_forget_2 : decode cX3_forget 2 = .ok (.iload_n 1, 1) := by decide +kernel
theorem dX3_forget_3 : decode cX3_forget 3 = .ok (.aload_n 0, 1) := by decide +kernel
theorem dX3_forget_4 : decode cX3_forget 4 = .ok (.getfield 18, 3) := by decide +kernel
theorem dX3_forget_7 : decode cX3_forget 7 = .ok (.arraylength, 1) := by decide +kernel
theorem dX3_forget_8 : decode cX3_forget 8 = .ok (.if_icmp .ge 16, 3) := by decide +kernel
theorem dX3_forget_11 : decode cX3_forget 11 = .ok (.aload_n 0, 1) := by decide +kernel
theorem dX3_forget_12 : decode cX3_forget 12 = .ok (.getfield 18, 3) := by decide +kernel
theorem dX3_forget_15 : decode cX3_forget 15 = .ok (.iload_n 1, 1) := by decide +kernel
theorem dX3_forget_16 : decode cX3_forget 16 = .ok (.iconst 0, 1) := by decide +kernel
theorem dX3_forget_17 : decode cX3_forget 17 = .ok (.bastore, 1) := by decide +kernel
theorem dX3_forget_18 : decode cX3_forget 18 = .ok (.iinc 1 1, 3) := by decide +kernel
theorem dX3_forget_21 : decode cX3_forget 21 = .ok (.goto (-19), 3) := by decide +kernel
theorem dX3_forget_24 : decode cX3_forget 24 = .ok (.return_, 1) := by decide +kernel
set_option maxRecDepth 20000 in
theorem ggX3_play_J7_fill_fda19 : GoodIn wsX3_play wsJ7_fill_fda19 := goodIn_r _ [12, 13, 14, 11, 15] rfl (by decide +kernel)
set_option maxRecDepth 20000 in
theorem gX3_play_J7_fill_fda19 : GoodIn wsX3_play (va_wsS RX3 40 yJ7_fill_fda19 wsJ7_fill_fda19) := goodIn_app (goodIn_of _ (by decide +kernel)) ggX3_play_J7_fill_fda19
set_option maxRecDepth 20000 in
theorem ggX3_play_X3_bestMargin : GoodIn wsX3_play wsX3_bestMargin := goodIn_r _ [20, 3, 8, 2, 21, 22, 23, 24, 25, 26, 27, 28, 29, 30, 31, 32, 33, 34, 35, 36, 37, 38, 39, 40, 41, 42, 43, 44, 45, 46, 47, 48, 49, 50, 51, 52, 53, 54, 55, 56, 57, 58, 59, 60, 61, 62, 63, 64, 65, 66, 67, 68, 69, 70, 71, 72, 73, 74, 75, 76, 77, 78, 79, 80, 81, 82, 83, 84, 85, 86, 87, 88, 89, 90, 91, 92, 93, 94, 95, 96, 97, 98, 99, 100, 101, 102, 103, 104, 105, 106, 107, 108, 109, 110, 111, 112, 113, 114, 115, 116, 117, 118, 119, 120, 121, 122, 123, 124, 125, 126, 127, 128, 129, 130, 131, 132, 19, 16, 17, 18, 133, 7, 134, 135, 136, 137, 138, 139, 140, 141, 142, 143, 144, 145, 146, 147, 148, 149, 150, 151, 152, 153, 154, 155, 156, 157, 158, 159, 160, 161, 162, 163, 164, 165, 166, 167, 168, 169, 170, 171, 172, 173, 174, 175, 176] rfl (by decide +kernel)
set_option maxRecDepth 20000 in
theorem gX3_play_X3_bestMargin : GoodIn wsX3_play (wsV RX3 51 RX3 yX3_bestMargin wsX3_bestMargin) := goodIn_app (goodIn_of _ (by decide +kernel)) ggX3_play_X3_bestMargin
set_option maxRecDepth 20000 in
theorem ggX3_play_X3_seaBehind : GoodIn wsX3_play wsX3_seaBehind := goodIn_r _ [137, 21, 2, 35, 36, 37, 38, 39, 40, 41, 42, 43, 138, 139, 140, 31, 141, 65, 66, 26, 67, 101, 25, 27, 54, 55, 56, 57, 58, 59, 60, 61, 62, 63, 64, 68, 69, 70, 71, 72, 73, 74, 75, 49, 76, 77, 78, 33, 79, 29, 30, 32, 34, 80, 81, 82, 83, 84, 85, 86, 87, 88, 89, 90, 48, 91, 92, 93, 94, 95, 96, 97, 98, 99, 100, 102, 103, 104, 105, 106, 107, 108, 109, 110, 111, 112, 113, 114, 115, 146, 147, 148, 149, 150, 151, 152, 173, 174, 175, 176, 153, 154, 155, 156, 157, 158, 159, 160, 161, 162, 163, 164, 165, 166, 167, 168, 169, 170, 171, 172] rfl (by decide +kernel)
set_option maxRecDepth 20000 in
theorem gX3_play_X3_seaBehind : GoodIn wsX3_play (wsV RX3 58 RX3 yX3_seaBehind wsX3_seaBehind) := goodIn_app (goodIn_of _ (by decide +kernel)) ggX3_play_X3_seaBehind
set_option maxRecDepth 20000 in
theorem ggX3_play_X5_thingsBehind : GoodIn wsX3_play wsX5_thingsBehind := goodIn_r _ [145, 48, 125, 96, 153, 154, 155, 156, 157, 158, 159, 160, 161, 162, 163, 164, 165, 166, 167, 168, 169, 170, 171, 172] rfl (by decide +kernel)
set_option maxRecDepth 20000 in
theorem gX3_play_X5_thingsBehind : GoodIn wsX3_play (wsV RX3 62 RX5 yX5_thingsBehind wsX5_thingsBehind) := goodIn_app (goodIn_of _ (by decide +kernel)) ggX3_play_X5_thingsBehind
theorem dX3_play_0 : decode cX3_play 0 = .ok (.iload_n 2, 1) := by decide +kernel
theorem dX3_play_1 : decode cX3_play 1 = .ok (.ifCond .lt 17, 3) := by decide +kernel
theorem dX3_play_4 : decode cX3_play 4 = .ok (.iload_n 2, 1) := by decide +kernel
theorem dX3_play_5 : decode cX3_play 5 = .ok (.iconst 4, 1) := by decide +kernel
theorem dX3_play_6 : decode cX3_play 6 = .ok (.if_icmp .gt 12, 3) := by decide +kernel
theorem dX3_play_9 : decode cX3_play 9 = .ok (.aload_n 0, 1) := by decide +kernel
theorem dX3_play_10 : decode cX3_play 10 = .ok (.getfield 18, 3) := by decide +kernel
theorem dX3_play_13 : decode cX3_play 13 = .ok (.iload_n 2, 1) := by decide +kernel
theorem dX3_play_14 : decode cX3_play 14 = .ok (.baload, 1) := by decide +kernel
theorem dX3_play_15 : decode cX3_play 15 = .ok (.ifCond .eq 4, 3) := by decide +kernel
theorem dX3_play_18 : decode cX3_play 18 = .ok (.return_, 1) := by decide +kernel
theorem dX3_play_19 : decode cX3_play 19 = .ok (.aload_n 0, 1) := by decide +kernel
theorem dX3_play_20 : decode cX3_play 20 = .ok (.getfield 18, 3) := by decide +kernel
theorem dX3_play_23 : decode cX3_play 23 = .ok (.iload_n 2, 1) := by decide +kernel
theorem dX3_play_24 : decode cX3_play 24 = .ok (.iconst 1, 1) := by decide +kernel
theorem dX3_play_25 : decode cX3_play 25 = .ok (.bastore, 1) := by decide +kernel
theorem dX3_play_26 : decode cX3_play 26 = .ok (.aload_n 0, 1) := by decide +kernel
theorem dX3_play_27 : decode cX3_play 27 = .ok (.aload_n 1, 1) := by decide +kernel
theorem dX3_play_28 : decode cX3_play 28 = .ok (.putfield 32, 3) := by decide +kernel
theorem dX3_play_31 : decode cX3_play 31 = .ok (.aload_n 0, 1) := by decide +kernel
theorem dX3_play_32 : decode cX3_play 32 = .ok (.iload_n 2, 1) := by decide +kernel
theorem dX3_play_33 : decode cX3_play 33 = .ok (.putfield 36, 3) := by decide +kernel
theorem dX3_play_36 : decode cX3_play 36 = .ok (.aload_n 0, 1) := by decide +kernel
theorem dX3_play_37 : decode cX3_play 37 = .ok (.getfield 15, 3) := by decide +kernel
theorem dX3_play_40 : decode cX3_play 40 = .ok (.iload_n 2, 1) := by decide +kernel
theorem dX3_play_41 : decode cX3_play 41 = .ok (.iconst 4, 1) := by decide +kernel
theorem dX3_play_42 : decode cX3_play 42 = .ok (.imul, 1) := by decide +kernel
theorem dX3_play_43 : decode cX3_play 43 = .ok (.iload_n 2, 1) := by decide +kernel
theorem dX3_play_44 : decode cX3_play 44 = .ok (.iconst 1, 1) := by decide +kernel
theorem dX3_play_45 : decode cX3_play 45 = .ok (.iadd, 1) := by decide +kernel
theorem dX3_play_46 : decode cX3_play 46 = .ok (.iconst 4, 1) := by decide +kernel
theorem dX3_play_47 : decode cX3_play 47 = .ok (.imul, 1) := by decide +kernel
theorem dX3_play_48 : decode cX3_play 48 = .ok (.bipush 20, 2) := by decide +kernel
theorem dX3_play_50 : decode cX3_play 50 = .ok (.invokestatic 40, 3) := by decide +kernel
theorem dX3_play_53 : decode cX3_play 53 = .ok (.aload_n 0, 1) := by decide +kernel
theorem dX3_play_54 : decode cX3_play 54 = .ok (.getfield 9, 3) := by decide +kernel
theorem dX3_play_57 : decode cX3_play 57 = .ok (.iload_n 2, 1) := by decide +kernel
theorem dX3_play_58 : decode cX3_play 58 = .ok (.aload_n 0, 1) := by decide +kernel
theorem dX3_play_59 : decode cX3_play 59 = .ok (.iconst 0, 1) := by decide +kernel
theorem dX3_play_60 : decode cX3_play 60 = .ok (.aload_n 0, 1) := by decide +kernel
theorem dX3_play_61 : decode cX3_play 61 = .ok (.getfield 32, 3) := by decide +kernel
theorem dX3_play_64 : decode cX3_play 64 = .ok (.getfield 46, 3) := by decide +kernel
theorem dX3_play_67 : decode cX3_play 67 = .ok (.aload_n 0, 1) := by decide +kernel
theorem dX3_play_68 : decode cX3_play 68 = .ok (.getfield 32, 3) := by decide +kernel
theorem dX3_play_71 : decode cX3_play 71 = .ok (.getfield 46, 3) := by decide +kernel
theorem dX3_play_74 : decode cX3_play 74 = .ok (.iconst 0, 1) := by decide +kernel
theorem dX3_play_75 : decode cX3_play 75 = .ok (.iconst 0, 1) := by decide +kernel
theorem dX3_play_76 : decode cX3_play 76 = .ok (.invokevirtual 51, 3) := by decide +kernel
theorem dX3_play_79 : decode cX3_play 79 = .ok (.iastore, 1) := by decide +kernel
theorem dX3_play_80 : decode cX3_play 80 = .ok (.aload_n 0, 1) := by decide +kernel
theorem dX3_play_81 : decode cX3_play 81 = .ok (.getfield 32, 3) := by decide +kernel
theorem dX3_play_84 : decode cX3_play 84 = .ok (.getfield 46, 3) := by decide +kernel
theorem dX3_play_87 : decode cX3_play 87 = .ok (.istore_n 3, 1) := by decide +kernel
theorem dX3_play_88 : decode cX3_play 88 = .ok (.aload_n 0, 1) := by decide +kernel
theorem dX3_play_89 : decode cX3_play 89 = .ok (.getfield 32, 3) := by decide +kernel
theorem dX3_play_92 : decode cX3_play 92 = .ok (.getfield 46, 3) := by decide +kernel
theorem dX3_play_95 : decode cX3_play 95 = .ok (.istore 4, 2) := by decide +kernel
theorem dX3_play_97 : decode cX3_play 97 = .ok (.iconst 0, 1) := by decide +kernel
theorem dX3_play_98 : decode cX3_play 98 = .ok (.istore 5, 2) := by decide +kernel
theorem dX3_play_100 : decode cX3_play 100 = .ok (.iconst 0, 1) := by decide +kernel
theorem dX3_play_101 : decode cX3_play 101 = .ok (.istore 6, 2) := by decide +kernel
theorem dX3_play_103 : decode cX3_play 103 = .ok (.iconst 0, 1) := by decide +kernel
theorem dX3_play_104 : decode cX3_play 104 = .ok (.istore 7, 2) := by decide +kernel
theorem dX3_play_106 : decode cX3_play 106 = .ok (.iload 7, 2) := by decide +kernel
theorem dX3_play_108 : decode cX3_play 108 = .ok (.iload_n 2, 1) := by decide +kernel
theorem dX3_play_109 : decode cX3_play 109 = .ok (.if_icmp .ge 102, 3) := by decide +kernel
theorem dX3_play_112 : decode cX3_play 112 = .ok (.iload 5, 2) := by decide +kernel
theorem dX3_play_114 : decode cX3_play 114 = .ok (.aload_n 0, 1) := by decide +kernel
theorem dX3_play_115 : decode cX3_play 115 = .ok (.getfield 32, 3) := by decide +kernel
theorem dX3_play_118 : decode cX3_play 118 = .ok (.getfield 55, 3) := by decide +kernel
theorem dX3_play_121 : decode cX3_play 121 = .ok (.if_icmp .gt 90, 3) := by decide +kernel
theorem dX3_play_124 : decode cX3_play 124 = .ok (.aload_n 0, 1) := by decide +kernel
theorem dX3_play_125 : decode cX3_play 125 = .ok (.iload 7, 2) := by decide +kernel
theorem dX3_play_127 : decode cX3_play 127 = .ok (.iload_n 3, 1) := by decide +kernel
theorem dX3_play_128 : decode cX3_play 128 = .ok (.iload 4, 2) := by decide +kernel
theorem dX3_play_130 : decode cX3_play 130 = .ok (.iload 5, 2) := by decide +kernel
theorem dX3_play_132 : decode cX3_play 132 = .ok (.iload 6, 2) := by decide +kernel
theorem dX3_play_134 : decode cX3_play 134 = .ok (.invokevirtual 51, 3) := by decide +kernel
theorem dX3_play_137 : decode cX3_play 137 = .ok (.pop, 1) := by decide +kernel
theorem dX3_play_138 : decode cX3_play 138 = .ok (.aload_n 0, 1) := by decide +kernel
theorem dX3_play_139 : decode cX3_play 139 = .ok (.getfield 22, 3) := by decide +kernel
theorem dX3_play_142 : decode cX3_play 142 = .ok (.iload 7, 2) := by decide +kernel
theorem dX3_play_144 : decode cX3_play 144 = .ok (.iaload, 1) := by decide +kernel
theorem dX3_play_145 : decode cX3_play 145 = .ok (.istore 8, 2) := by decide +kernel
theorem dX3_play_147 : decode cX3_play 147 = .ok (.aload_n 0, 1) := by decide +kernel
theorem dX3_play_148 : decode cX3_play 148 = .ok (.getfield 15, 3) := by decide +kernel
theorem dX3_play_151 : decode cX3_play 151 = .ok (.iload_n 2, 1) := by decide +kernel
theorem dX3_play_152 : decode cX3_play 152 = .ok (.iconst 4, 1) := by decide +kernel
theorem dX3_play_153 : decode cX3_play 153 = .ok (.imul, 1) := by decide +kernel
theorem dX3_play_154 : decode cX3_play 154 = .ok (.iload 7, 2) := by decide +kernel
theorem dX3_play_156 : decode cX3_play 156 = .ok (.iadd, 1) := by decide +kernel
theorem dX3_play_157 : decode cX3_play 157 = .ok (.iload 8, 2) := by decide +kernel
theorem dX3_play_159 : decode cX3_play 159 = .ok (.iastore, 1) := by decide +kernel
theorem dX3_play_160 : decode cX3_play 160 = .ok (.iload_n 3, 1) := by decide +kernel
theorem dX3_play_161 : decode cX3_play 161 = .ok (.istore 9, 2) := by decide +kernel
theorem dX3_play_163 : decode cX3_play 163 = .ok (.iload 8, 2) := by decide +kernel
theorem dX3_play_165 : decode cX3_play 165 = .ok (.bipush 20, 2) := by decide +kernel
theorem dX3_play_167 : decode cX3_play 167 = .ok (.if_icmp .eq 31, 3) := by decide +kernel
theorem dX3_play_170 : decode cX3_play 170 = .ok (.aload_n 0, 1) := by decide +kernel
theorem dX3_play_171 : decode cX3_play 171 = .ok (.iload_n 3, 1) := by decide +kernel
theorem dX3_play_172 : decode cX3_play 172 = .ok (.iload 5, 2) := by decide +kernel
theorem dX3_play_174 : decode cX3_play 174 = .ok (.iload 6, 2) := by decide +kernel
theorem dX3_play_176 : decode cX3_play 176 = .ok (.iload 8, 2) := by decide +kernel
theorem dX3_play_178 : decode cX3_play 178 = .ok (.invokevirtual 58, 3) := by decide +kernel
theorem dX3_play_181 : decode cX3_play 181 = .ok (.istore 5, 2) := by decide +kernel
theorem dX3_play_183 : decode cX3_play 183 = .ok (.aload_n 0, 1) := by decide +kernel
theorem dX3_play_184 : decode cX3_play 184 = .ok (.getfield 32, 3) := by decide +kernel
theorem dX3_play_187 : decode cX3_play 187 = .ok (.iload_n 3, 1) := by decide +kernel
theorem dX3_play_188 : decode cX3_play 188 = .ok (.iload 8, 2) := by decide +kernel
theorem dX3_play_190 : decode cX3_play 190 = .ok (.invokevirtual 62, 3) := by decide +kernel
theorem dX3_play_193 : decode cX3_play 193 = .ok (.istore 9, 2) := by decide +kernel
theorem dX3_play_195 : decode cX3_play 195 = .ok (.iinc 6 1, 3) := by decide +kernel
theorem dX3_play_198 : decode cX3_play 198 = .ok (.iload 4, 2) := by decide +kernel
theorem dX3_play_200 : decode cX3_play 200 = .ok (.istore_n 3, 1) := by decide +kernel
theorem dX3_play_201 : decode cX3_play 201 = .ok (.iload 9, 2) := by decide +kernel
theorem dX3_play_203 : decode cX3_play 203 = .ok (.istore 4, 2) := by decide +kernel
theorem dX3_play_205 : decode cX3_play 205 = .ok (.iinc 7 1, 3) := by decide +kernel
theorem dX3_play_208 : decode cX3_play 208 = .ok (.goto (-102), 3) := by decide +kernel
theorem dX3_play_211 : decode cX3_play 211 = .ok (.return_, 1) := by decide +kernel
set_option maxRecDepth 20000 in
theorem ggX3_seaBehind_X0_put : GoodIn wsX3_seaBehind wsX0_put := goodIn_r _ [7, 8, 9, 10, 11, 96, 97, 98, 99] rfl (by decide +kernel)
set_option maxRecDepth 20000 in
theorem gX3_seaBehind_X0_put : GoodIn wsX3_seaBehind (wsV RX3 66 RX0 yX0_put wsX0_put) := goodIn_app (goodIn_of _ (by decide +kernel)) ggX3_seaBehind_X0_put
set_option maxRecDepth 20000 in
theorem ggX3_seaBehind_X5_darkOf : GoodIn wsX3_seaBehind wsX5_darkOf := goodIn_r _ [16, 17, 18, 19, 20, 21, 22, 23, 24, 25, 26, 15, 27, 28, 29, 30, 31, 32, 33, 34, 35, 36, 37, 38, 39, 40, 41, 42, 43, 44, 45, 46, 47, 48, 49, 50, 51, 52, 53, 54, 55, 56, 57, 58, 59, 60, 61, 62, 63, 64, 65, 66, 67, 68, 69, 70, 71, 72, 73, 74, 75, 76, 77, 78, 79, 80, 81, 82, 83, 84, 85, 86, 87, 88, 100, 101, 102, 103, 104, 105, 106, 107, 108, 109, 110, 111, 112, 113, 114, 115, 116, 117, 118, 119, 96, 97, 98, 99] rfl (by decide +kernel)
set_option maxRecDepth 20000 in
theorem gX3_seaBehind_X5_darkOf : GoodIn wsX3_seaBehind (wsV RX3 70 RX5 yX5_darkOf wsX5_darkOf) := goodIn_app (goodIn_of _ (by decide +kernel)) ggX3_seaBehind_X5_darkOf
theorem dX3_seaBehind_0 : decode cX3_seaBehind 0 = .ok (.aload_n 0, 1) := by decide +kernel
theorem dX3_seaBehind_1 : decode cX3_seaBehind 1 = .ok (.getfield 28, 3) := by decide +kernel
theorem dX3_seaBehind_4 : decode cX3_seaBehind 4 = .ok (.iload_n 1, 1) := by decide +kernel
theorem dX3_seaBehind_5 : decode cX3_seaBehind 5 = .ok (.iload_n 2, 1) := by decide +kernel
theorem dX3_seaBehind_6 : decode cX3_seaBehind 6 = .ok (.iload_n 3, 1) := by decide +kernel
theorem dX3_seaBehind_7 : decode cX3_seaBehind 7 = .ok (.iconst 0, 1) := by decide +kernel
theorem dX3_seaBehind_8 : decode cX3_seaBehind 8 = .ok (.invokevirtual 66, 3) := by decide +kernel
theorem dX3_seaBehind_11 : decode cX3_seaBehind 11 = .ok (.iload_n 2, 1) := by decide +kernel
theorem dX3_seaBehind_12 : decode cX3_seaBehind 12 = .ok (.aload_n 0, 1) := by decide +kernel
theorem dX3_seaBehind_13 : decode cX3_seaBehind 13 = .ok (.getfield 32, 3) := by decide +kernel
theorem dX3_seaBehind_16 : decode cX3_seaBehind 16 = .ok (.aload_n 0, 1) := by decide +kernel
theorem dX3_seaBehind_17 : decode cX3_seaBehind 17 = .ok (.getfield 28, 3) := by decide +kernel
theorem dX3_seaBehind_20 : decode cX3_seaBehind 20 = .ok (.iload 4, 2) := by decide +kernel
theorem dX3_seaBehind_22 : decode cX3_seaBehind 22 = .ok (.invokevirtual 70, 3) := by decide +kernel
theorem dX3_seaBehind_25 : decode cX3_seaBehind 25 = .ok (.iadd, 1) := by decide +kernel
theorem dX3_seaBehind_26 : decode cX3_seaBehind 26 = .ok (.ireturn, 1) := by decide +kernel
set_option maxRecDepth 20000 in
theorem ggX3_bestMargin_X5_worthOf : GoodIn wsX3_bestMargin wsX5_worthOf := goodIn_r _ [15, 16, 17, 141, 142, 143, 144, 145, 146, 147, 148, 149, 150, 151, 152, 153, 154, 155, 156, 157, 158, 159, 160] rfl (by decide +kernel)
set_option maxRecDepth 20000 in
theorem gX3_bestMargin_X5_worthOf : GoodIn wsX3_bestMargin (wsV RX3 74 RX5 yX5_worthOf wsX5_worthOf) := goodIn_app (goodIn_of _ (by decide +kernel)) ggX3_bestMargin_X5_worthOf
set_option maxRecDepth 20000 in
theorem ggX3_bestMargin_X0_put : GoodIn wsX3_bestMargin wsX0_put := goodIn_r _ [22, 23, 24, 25, 26, 161, 162, 163, 164] rfl (by decide +kernel)
set_option maxRecDepth 20000 in
theorem gX3_bestMargin_X0_put : GoodIn wsX3_bestMargin (wsV RX3 66 RX0 yX0_put wsX0_put) := goodIn_app (goodIn_of _ (by decide +kernel)) ggX3_bestMargin_X0_put
set_option maxRecDepth 20000 in
theorem ggX3_bestMargin_X5_mayBeSaid : GoodIn wsX3_bestMargin wsX5_mayBeSaid := goodIn_r _ [30, 31, 32, 33, 34, 35, 14, 36, 37, 38, 39, 40, 41, 42, 43, 44, 45, 46, 47, 48, 49, 9, 50, 51, 52, 53, 54, 55, 56, 57, 58, 59, 60, 61, 16, 62, 12, 13, 15, 17, 63, 64, 65, 66, 67, 68, 69, 70, 71, 72, 73, 74, 75, 76, 77, 78, 79, 80, 81, 82, 83, 84, 8, 10, 85, 86, 87, 88, 89, 90, 91, 92, 93, 94, 95, 96, 97, 98, 99, 100, 101, 102, 103, 104, 105, 106, 107, 108, 109, 110, 111, 112, 141, 142, 143, 144, 145, 146, 147, 148, 149, 150, 151, 152, 153, 154, 155, 156, 157, 158, 159, 160, 161, 162, 163, 164] rfl (by decide +kernel)
set_option maxRecDepth 20000 in
theorem gX3_bestMargin_X5_mayBeSaid : GoodIn wsX3_bestMargin (wsV RX3 78 RX5 yX5_mayBeSaid wsX5_mayBeSaid) := goodIn_app (goodIn_of _ (by decide +kernel)) ggX3_bestMargin_X5_mayBeSaid
set_option maxRecDepth 20000 in
theorem ggX3_bestMargin_X3_marginBy : GoodIn wsX3_bestMargin wsX3_marginBy := goodIn_r _ [120, 3, 121, 122, 123, 124, 116, 125, 4, 18, 19, 20, 21, 22, 23, 24, 25, 26, 126, 127, 128, 14, 129, 48, 49, 9, 50, 84, 8, 10, 37, 38, 39, 40, 41, 42, 43, 44, 45, 46, 47, 51, 52, 53, 54, 55, 56, 57, 58, 32, 59, 60, 61, 16, 62, 12, 13, 15, 17, 63, 64, 65, 66, 67, 68, 69, 70, 71, 72, 73, 31, 74, 75, 76, 77, 78, 79, 80, 81, 82, 83, 85, 86, 87, 88, 89, 90, 91, 92, 93, 94, 95, 96, 97, 98, 130, 131, 132, 133, 108, 117, 118, 119, 0, 1, 2, 5, 6, 7, 11, 27, 28, 29, 30, 33, 34, 35, 36, 99, 100, 101, 102, 103, 104, 105, 106, 107, 109, 110, 111, 112, 113, 114, 115, 134, 135, 136, 137, 138, 139, 140, 141, 142, 143, 144, 145, 146, 147, 148, 149, 150, 151, 152, 153, 154, 155, 156, 157, 158, 159, 160, 161, 162, 163, 164] rfl (by decide +kernel)
set_option maxRecDepth 20000 in
theorem gX3_bestMargin_X3_marginBy : GoodIn wsX3_bestMargin (wsV RX3 86 RX3 yX3_marginBy wsX3_marginBy) := goodIn_app (goodIn_of _ (by decide +kernel)) ggX3_bestMargin_X3_marginBy
set_option maxRecDepth 20000 in
theorem ggX3_bestMargin_X3_bestMargin : GoodIn wsX3_bestMargin wsX3_bestMargin := goodIn_r _ [0, 1, 2, 3, 4, 5, 6, 7, 8, 9, 10, 11, 12, 13, 14, 15, 16, 17, 18, 19, 20, 21, 22, 23, 24, 25, 26, 27, 28, 29, 30, 31, 32, 33, 34, 35, 36, 37, 38, 39, 40, 41, 42, 43, 44, 45, 46, 47, 48, 49, 50, 51, 52, 53, 54, 55, 56, 57, 58, 59, 60, 61, 62, 63, 64, 65, 66, 67, 68, 69, 70, 71, 72, 73, 74, 75, 76, 77, 78, 79, 80, 81, 82, 83, 84, 85, 86, 87, 88, 89, 90, 91, 92, 93, 94, 95, 96, 97, 98, 99, 100, 101, 102, 103, 104, 105, 106, 107, 108, 109, 110, 111, 112, 113, 114, 115, 116, 117, 118, 119, 120, 121, 122, 123, 124, 125, 126, 127, 128, 129, 130, 131, 132, 133, 134, 135, 136, 137, 138, 139, 140, 141, 142, 143, 144, 145, 146, 147, 148, 149, 150, 151, 152, 153, 154, 155, 156, 157, 158, 159, 160, 161, 162, 163, 164] rfl (by decide +kernel)
set_option maxRecDepth 20000 in
theorem gX3_bestMargin_X3_bestMargin : GoodIn wsX3_bestMargin (wsV RX3 51 RX3 yX3_bestMargin wsX3_bestMargin) := goodIn_app (goodIn_of _ (by decide +kernel)) ggX3_bestMargin_X3_bestMargin
theorem dX3_bestMargin_0 : decode cX3_bestMargin 0 = .ok (.iload_n 1, 1) := by decide +kernel
theorem dX3_bestMargin_1 : decode cX3_bestMargin 1 = .ok (.aload_n 0, 1) := by decide +kernel
theorem dX3_bestMargin_2 : decode cX3_bestMargin 2 = .ok (.getfield 36, 3) := by decide +kernel
theorem dX3_bestMargin_5 : decode cX3_bestMargin 5 = .ok (.if_icmp .ge 12, 3) := by decide +kernel
theorem dX3_bestMargin_8 : decode cX3_bestMargin 8 = .ok (.iload_n 1, 1) := by decide +kernel
theorem dX3_bestMargin_9 : decode cX3_bestMargin 9 = .ok (.aload_n 0, 1) := by decide +kernel
theorem dX3_bestMargin_10 : decode cX3_bestMargin 10 = .ok (.getfield 22, 3) := by decide +kernel
theorem dX3_bestMargin_13 : decode cX3_bestMargin 13 = .ok (.arraylength, 1) := by decide +kernel
theorem dX3_bestMargin_14 : decode cX3_bestMargin 14 = .ok (.if_icmp .lt 21, 3) := by decide +kernel
theorem dX3_bestMargin_17 : decode cX3_bestMargin 17 = .ok (.aload_n 0, 1) := by decide +kernel
theorem dX3_bestMargin_18 : decode cX3_bestMargin 18 = .ok (.getfield 32, 3) := by decide +kernel
theorem dX3_bestMargin_21 : decode cX3_bestMargin 21 = .ok (.iload_n 2, 1) := by decide +kernel
theorem dX3_bestMargin_22 : decode cX3_bestMargin 22 = .ok (.invokevirtual 74, 3) := by decide +kernel
theorem dX3_bestMargin_25 : decode cX3_bestMargin 25 = .ok (.aload_n 0, 1) := by decide +kernel
theorem dX3_bestMargin_26 : decode cX3_bestMargin 26 = .ok (.getfield 32, 3) := by decide +kernel
theorem dX3_bestMargin_29 : decode cX3_bestMargin 29 = .ok (.iload_n 3, 1) := by decide +kernel
theorem dX3_bestMargin_30 : decode cX3_bestMargin 30 = .ok (.invokevirtual 74, 3) := by decide +kernel
theorem dX3_bestMargin_33 : decode cX3_bestMargin 33 = .ok (.isub, 1) := by decide +kernel
theorem dX3_bestMargin_34 : decode cX3_bestMargin 34 = .ok (.ireturn, 1) := by decide +kernel
theorem dX3_bestMargin_35 : decode cX3_bestMargin 35 = .ok (.aload_n 0, 1) := by decide +kernel
theorem dX3_bestMargin_36 : decode cX3_bestMargin 36 = .ok (.getfield 28, 3) := by decide +kernel
theorem dX3_bestMargin_39 : decode cX3_bestMargin 39 = .ok (.iload_n 2, 1) := by decide +kernel
theorem dX3_bestMargin_40 : decode cX3_bestMargin 40 = .ok (.iload 4, 2) := by decide +kernel
theorem dX3_bestMargin_42 : decode cX3_bestMargin 42 = .ok (.iload 5, 2) := by decide +kernel
theorem dX3_bestMargin_44 : decode cX3_bestMargin 44 = .ok (.iconst 0, 1) := by decide +kernel
theorem dX3_bestMargin_45 : decode cX3_bestMargin 45 = .ok (.invokevirtual 66, 3) := by decide +kernel
theorem dX3_bestMargin_48 : decode cX3_bestMargin 48 = .ok (.aload_n 0, 1) := by decide +kernel
theorem dX3_bestMargin_49 : decode cX3_bestMargin 49 = .ok (.getfield 32, 3) := by decide +kernel
theorem dX3_bestMargin_52 : decode cX3_bestMargin 52 = .ok (.aload_n 0, 1) := by decide +kernel
theorem dX3_bestMargin_53 : decode cX3_bestMargin 53 = .ok (.getfield 28, 3) := by decide +kernel
theorem dX3_bestMargin_56 : decode cX3_bestMargin 56 = .ok (.invokevirtual 78, 3) := by decide +kernel
theorem dX3_bestMargin_59 : decode cX3_bestMargin 59 = .ok (.istore 6, 2) := by decide +kernel
theorem dX3_bestMargin_61 : decode cX3_bestMargin 61 = .ok (.ldc 82, 2) := by decide +kernel
theorem dX3_bestMargin_63 : decode cX3_bestMargin 63 = .ok (.istore 7, 2) := by decide +kernel
theorem dX3_bestMargin_65 : decode cX3_bestMargin 65 = .ok (.bipush 20, 2) := by decide +kernel
theorem dX3_bestMargin_67 : decode cX3_bestMargin 67 = .ok (.istore 8, 2) := by decide +kernel
theorem dX3_bestMargin_69 : decode cX3_bestMargin 69 = .ok (.iconst 0, 1) := by decide +kernel
theorem dX3_bestMargin_70 : decode cX3_bestMargin 70 = .ok (.istore 9, 2) := by decide +kernel
theorem dX3_bestMargin_72 : decode cX3_bestMargin 72 = .ok (.iload 9, 2) := by decide +kernel
theorem dX3_bestMargin_74 : decode cX3_bestMargin 74 = .ok (.aload_n 0, 1) := by decide +kernel
theorem dX3_bestMargin_75 : decode cX3_bestMargin 75 = .ok (.getfield 32, 3) := by decide +kernel
theorem dX3_bestMargin_78 : decode cX3_bestMargin 78 = .ok (.getfield 83, 3) := by decide +kernel
theorem dX3_bestMargin_81 : decode cX3_bestMargin 81 = .ok (.if_icmp .ge 52, 3) := by decide +kernel
theorem dX3_bestMargin_84 : decode cX3_bestMargin 84 = .ok (.iload 6, 2) := by decide +kernel
theorem dX3_bestMargin_86 : decode cX3_bestMargin 86 = .ok (.iload 9, 2) := by decide +kernel
theorem dX3_bestMargin_88 : decode cX3_bestMargin 88 = .ok (.ishr, 1) := by decide +kernel
theorem dX3_bestMargin_89 : decode cX3_bestMargin 89 = .ok (.iconst 1, 1) := by decide +kernel
theorem dX3_bestMargin_90 : decode cX3_bestMargin 90 = .ok (.iand, 1) := by decide +kernel
theorem dX3_bestMargin_91 : decode cX3_bestMargin 91 = .ok (.ifCond .ne 6, 3) := by decide +kernel
theorem dX3_bestMargin_94 : decode cX3_bestMargin 94 = .ok (.goto 33, 3) := by decide +kernel
theorem dX3_bestMargin_97 : decode cX3_bestMargin 97 = .ok (.aload_n 0, 1) := by decide +kernel
theorem dX3_bestMargin_98 : decode cX3_bestMargin 98 = .ok (.iload 9, 2) := by decide +kernel
theorem dX3_bestMargin_100 : decode cX3_bestMargin 100 = .ok (.iload_n 1, 1) := by decide +kernel
theorem dX3_bestMargin_101 : decode cX3_bestMargin 101 = .ok (.iload_n 2, 1) := by decide +kernel
theorem dX3_bestMargin_102 : decode cX3_bestMargin 102 = .ok (.iload_n 3, 1) := by decide +kernel
theorem dX3_bestMargin_103 : decode cX3_bestMargin 103 = .ok (.iload 4, 2) := by decide +kernel
theorem dX3_bestMargin_105 : decode cX3_bestMargin 105 = .ok (.iload 5, 2) := by decide +kernel
theorem dX3_bestMargin_107 : decode cX3_bestMargin 107 = .ok (.invokevirtual 86, 3) := by decide +kernel
theorem dX3_bestMargin_110 : decode cX3_bestMargin 110 = .ok (.istore 10, 2) := by decide +kernel
theorem dX3_bestMargin_112 : decode cX3_bestMargin 112 = .ok (.iload 10, 2) := by decide +kernel
theorem dX3_bestMargin_114 : decode cX3_bestMargin 114 = .ok (.iload 7, 2) := by decide +kernel
theorem dX3_bestMargin_116 : decode cX3_bestMargin 116 = .ok (.if_icmp .le 11, 3) := by decide +kernel
theorem dX3_bestMargin_119 : decode cX3_bestMargin 119 = .ok (.iload 10, 2) := by decide +kernel
theorem dX3_bestMargin_121 : decode cX3_bestMargin 121 = .ok (.istore 7, 2) := by decide +kernel
theorem dX3_bestMargin_123 : decode cX3_bestMargin 123 = .ok (.iload 9, 2) := by decide +kernel
theorem dX3_bestMargin_125 : decode cX3_bestMargin 125 = .ok (.istore 8, 2) := by decide +kernel
theorem dX3_bestMargin_127 : decode cX3_bestMargin 127 = .ok (.iinc 9 1, 3) := by decide +kernel
theorem dX3_bestMargin_130 : decode cX3_bestMargin 130 = .ok (.goto (-58), 3) := by decide +kernel
theorem dX3_bestMargin_133 : decode cX3_bestMargin 133 = .ok (.aload_n 0, 1) := by decide +kernel
theorem dX3_bestMargin_134 : decode cX3_bestMargin 134 = .ok (.iload_n 1, 1) := by decide +kernel
theorem dX3_bestMargin_135 : decode cX3_bestMargin 135 = .ok (.iconst 1, 1) := by decide +kernel
theorem dX3_bestMargin_136 : decode cX3_bestMargin 136 = .ok (.iadd, 1) := by decide +kernel
theorem dX3_bestMargin_137 : decode cX3_bestMargin 137 = .ok (.iload_n 3, 1) := by decide +kernel
theorem dX3_bestMargin_138 : decode cX3_bestMargin 138 = .ok (.iload_n 2, 1) := by decide +kernel
theorem dX3_bestMargin_139 : decode cX3_bestMargin 139 = .ok (.iload 4, 2) := by decide +kernel
theorem dX3_bestMargin_141 : decode cX3_bestMargin 141 = .ok (.iload 5, 2) := by decide +kernel
theorem dX3_bestMargin_143 : decode cX3_bestMargin 143 = .ok (.invokevirtual 51, 3) := by decide +kernel
theorem dX3_bestMargin_146 : decode cX3_bestMargin 146 = .ok (.ineg, 1) := by decide +kernel
theorem dX3_bestMargin_147 : decode cX3_bestMargin 147 = .ok (.istore 9, 2) := by decide +kernel
theorem dX3_bestMargin_149 : decode cX3_bestMargin 149 = .ok (.aload_n 0, 1) := by decide +kernel
theorem dX3_bestMargin_150 : decode cX3_bestMargin 150 = .ok (.getfield 22, 3) := by decide +kernel
theorem dX3_bestMargin_153 : decode cX3_bestMargin 153 = .ok (.iload_n 1, 1) := by decide +kernel
theorem dX3_bestMargin_154 : decode cX3_bestMargin 154 = .ok (.iload 9, 2) := by decide +kernel
theorem dX3_bestMargin_156 : decode cX3_bestMargin 156 = .ok (.iload 7, 2) := by decide +kernel
theorem dX3_bestMargin_158 : decode cX3_bestMargin 158 = .ok (.if_icmp .le 8, 3) := by decide +kernel
theorem dX3_bestMargin_161 : decode cX3_bestMargin 161 = .ok (.bipush 20, 2) := by decide +kernel
theorem dX3_bestMargin_163 : decode cX3_bestMargin 163 = .ok (.goto 5, 3) := by decide +kernel
theorem dX3_bestMargin_166 : decode cX3_bestMargin 166 = .ok (.iload 8, 2) := by decide +kernel
theorem dX3_bestMargin_168 : decode cX3_bestMargin 168 = .ok (.iastore, 1) := by decide +kernel
theorem dX3_bestMargin_169 : decode cX3_bestMargin 169 = .ok (.iload 7, 2) := by decide +kernel
theorem dX3_bestMargin_171 : decode cX3_bestMargin 171 = .ok (.iload 9, 2) := by decide +kernel
theorem dX3_bestMargin_173 : decode cX3_bestMargin 173 = .ok (.invokestatic 90, 3) := by decide +kernel
theorem dX3_bestMargin_176 : decode cX3_bestMargin 176 = .ok (.ireturn, 1) := by decide +kernel
set_option maxRecDepth 20000 in
theorem ggX3_marginBy_X3_seaBehind : GoodIn wsX3_marginBy wsX3_seaBehind := goodIn_r _ [7, 8, 1, 9, 10, 11, 12, 13, 14, 15, 16, 17, 18, 19, 20, 21, 22, 23, 24, 25, 26, 27, 28, 29, 30, 31, 32, 33, 34, 35, 36, 37, 38, 39, 40, 41, 42, 43, 44, 45, 46, 47, 48, 49, 50, 51, 52, 53, 54, 55, 56, 57, 58, 59, 60, 61, 62, 63, 64, 65, 66, 67, 68, 69, 70, 71, 72, 73, 74, 75, 76, 77, 78, 79, 80, 81, 82, 83, 84, 85, 86, 87, 88, 89, 90, 91, 92, 93, 94, 134, 135, 136, 137, 138, 139, 140, 161, 162, 163, 164, 141, 142, 143, 144, 145, 146, 147, 148, 149, 150, 151, 152, 153, 154, 155, 156, 157, 158, 159, 160] rfl (by decide +kernel)
set_option maxRecDepth 20000 in
theorem gX3_marginBy_X3_seaBehind : GoodIn wsX3_marginBy (wsV RX3 58 RX3 yX3_seaBehind wsX3_seaBehind) := goodIn_app (goodIn_of _ (by decide +kernel)) ggX3_marginBy_X3_seaBehind
set_option maxRecDepth 20000 in
theorem ggX3_marginBy_X5_thingsBehind : GoodIn wsX3_marginBy wsX5_thingsBehind := goodIn_r _ [98, 70, 99, 76, 141, 142, 143, 144, 145, 146, 147, 148, 149, 150, 151, 152, 153, 154, 155, 156, 157, 158, 159, 160] rfl (by decide +kernel)
set_option maxRecDepth 20000 in
theorem gX3_marginBy_X5_thingsBehind : GoodIn wsX3_marginBy (wsV RX3 62 RX5 yX5_thingsBehind wsX5_thingsBehind) := goodIn_app (goodIn_of _ (by decide +kernel)) ggX3_marginBy_X5_thingsBehind
set_option maxRecDepth 20000 in
theorem ggX3_marginBy_X3_bestMargin : GoodIn wsX3_marginBy wsX3_bestMargin := goodIn_r _ [103, 104, 105, 1, 8, 106, 107, 108, 28, 25, 29, 109, 55, 56, 21, 57, 53, 58, 9, 10, 11, 12, 13, 14, 15, 16, 17, 110, 111, 112, 113, 70, 49, 114, 115, 116, 117, 30, 31, 32, 33, 34, 35, 36, 37, 38, 39, 40, 23, 24, 26, 41, 42, 43, 44, 45, 46, 47, 48, 50, 51, 52, 54, 59, 60, 61, 62, 63, 64, 65, 66, 67, 68, 69, 71, 72, 73, 74, 75, 76, 77, 78, 79, 80, 27, 81, 82, 83, 84, 85, 86, 87, 88, 89, 90, 91, 92, 93, 94, 118, 119, 120, 121, 122, 123, 124, 125, 126, 99, 127, 128, 129, 130, 131, 132, 133, 6, 100, 101, 102, 0, 2, 3, 4, 5, 7, 18, 19, 20, 22, 95, 96, 97, 98, 134, 135, 136, 137, 138, 139, 140, 141, 142, 143, 144, 145, 146, 147, 148, 149, 150, 151, 152, 153, 154, 155, 156, 157, 158, 159, 160, 161, 162, 163, 164] rfl (by decide +kernel)
set_option maxRecDepth 20000 in
theorem gX3_marginBy_X3_bestMargin : GoodIn wsX3_marginBy (wsV RX3 51 RX3 yX3_bestMargin wsX3_bestMargin) := goodIn_app (goodIn_of _ (by decide +kernel)) ggX3_marginBy_X3_bestMargin
theorem dX3_marginBy_0 : decode cX3_marginBy 0 = .ok (.aload_n 0, 1) := by decide +kernel
theorem dX3_marginBy_1 : decode cX3_marginBy 1 = .ok (.iload_n 3, 1) := by decide +kernel
theorem dX3_marginBy_2 : decode cX3_marginBy 2 = .ok (.iload 5, 2) := by decide +kernel
theorem dX3_marginBy_4 : decode cX3_marginBy 4 = .ok (.iload 6, 2) := by decide +kernel
theorem dX3_marginBy_6 : decode cX3_marginBy 6 = .ok (.iload_n 1, 1) := by decide +kernel
theorem dX3_marginBy_7 : decode cX3_marginBy 7 = .ok (.invokevirtual 58, 3) := by decide +kernel
theorem dX3_marginBy_10 : decode cX3_marginBy 10 = .ok (.istore 7, 2) := by decide +kernel
theorem dX3_marginBy_12 : decode cX3_marginBy 12 = .ok (.iload 7, 2) := by decide +kernel
theorem dX3_marginBy_14 : decode cX3_marginBy 14 = .ok (.aload_n 0, 1) := by decide +kernel
theorem dX3_marginBy_15 : decode cX3_marginBy 15 = .ok (.getfield 32, 3) := by decide +kernel
theorem dX3_marginBy_18 : decode cX3_marginBy 18 = .ok (.getfield 55, 3) := by decide +kernel
theorem dX3_marginBy_21 : decode cX3_marginBy 21 = .ok (.if_icmp .le 5, 3) := by decide +kernel
theorem dX3_marginBy_24 : decode cX3_marginBy 24 = .ok (.iconst 0, 1) := by decide +kernel
theorem dX3_marginBy_25 : decode cX3_marginBy 25 = .ok (.ireturn, 1) := by decide +kernel
theorem dX3_marginBy_26 : decode cX3_marginBy 26 = .ok (.aload_n 0, 1) := by decide +kernel
theorem dX3_marginBy_27 : decode cX3_marginBy 27 = .ok (.iload_n 2, 1) := by decide +kernel
theorem dX3_marginBy_28 : decode cX3_marginBy 28 = .ok (.iconst 1, 1) := by decide +kernel
theorem dX3_marginBy_29 : decode cX3_marginBy 29 = .ok (.iadd, 1) := by decide +kernel
theorem dX3_marginBy_30 : decode cX3_marginBy 30 = .ok (.iload 4, 2) := by decide +kernel
theorem dX3_marginBy_32 : decode cX3_marginBy 32 = .ok (.aload_n 0, 1) := by decide +kernel
theorem dX3_marginBy_33 : decode cX3_marginBy 33 = .ok (.getfield 32, 3) := by decide +kernel
theorem dX3_marginBy_36 : decode cX3_marginBy 36 = .ok (.iload_n 3, 1) := by decide +kernel
theorem dX3_marginBy_37 : decode cX3_marginBy 37 = .ok (.iload_n 1, 1) := by decide +kernel
theorem dX3_marginBy_38 : decode cX3_marginBy 38 = .ok (.invokevirtual 62, 3) := by decide +kernel
theorem dX3_marginBy_41 : decode cX3_marginBy 41 = .ok (.iload 7, 2) := by decide +kernel
theorem dX3_marginBy_43 : decode cX3_marginBy 43 = .ok (.iload 6, 2) := by decide +kernel
theorem dX3_marginBy_45 : decode cX3_marginBy 45 = .ok (.iconst 1, 1) := by decide +kernel
theorem dX3_marginBy_46 : decode cX3_marginBy 46 = .ok (.iadd, 1) := by decide +kernel
theorem dX3_marginBy_47 : decode cX3_marginBy 47 = .ok (.invokevirtual 51, 3) := by decide +kernel
theorem dX3_marginBy_50 : decode cX3_marginBy 50 = .ok (.ineg, 1) := by decide +kernel
theorem dX3_marginBy_51 : decode cX3_marginBy 51 = .ok (.ireturn, 1) := by decide +kernel
set_option maxRecDepth 20000 in
theorem ggX4_init_X0_init : GoodIn wsX4_init wsX0_init := goodIn_r _ [13, 14, 2, 3] rfl (by decide +kernel)
set_option maxRecDepth 20000 in
theorem gX4_init_X0_init_n17 : GoodIn wsX4_init (wsX0_init) := ggX4_init_X0_init
theorem dX4_init_0 : decode cX4_init 0 = .ok (.aload_n 0, 1) := by decide +kernel
theorem dX4_init_1 : decode cX4_init 1 = .ok (.invokespecial 3, 3) := by decide +kernel
theorem dX4_init_4 : decode cX4_init 4 = .ok (.aload_n 0, 1) := by decide +kernel
theorem dX4_init_5 : decode cX4_init 5 = .ok (.sipush 9216, 3) := by decide +kernel
theorem dX4_init_8 : decode cX4_init 8 = .ok (.newarray .int, 2) := by decide +kernel
theorem dX4_init_10 : decode cX4_init 10 = .ok (.putfield 9, 3) := by decide +kernel
theorem dX4_init_13 : decode cX4_init 13 = .ok (.aload_n 0, 1) := by decide +kernel
theorem dX4_init_14 : decode cX4_init 14 = .ok (.new 15, 3) := by decide +kernel
theorem dX4_init_17 : decode cX4_init 17 = .ok (.dup, 1) := by decide +kernel
theorem dX4_init_18 : decode cX4_init 18 = .ok (.invokespecial 17, 3) := by decide +kernel
theorem dX4_init_21 : decode cX4_init 21 = .ok (.putfield 18, 3) := by decide +kernel
theorem dX4_init_24 : decode cX4_init 24 = .ok (.aload_n 0, 1) := by decide +kernel
theorem dX4_init_25 : decode cX4_init 25 = .ok (.new 15, 3) := by decide +kernel
theorem dX4_init_28 : decode cX4_init 28 = .ok (.dup, 1) := by decide +kernel
theorem dX4_init_29 : decode cX4_init 29 = .ok (.invokespecial 17, 3) := by decide +kernel
theorem dX4_init_32 : decode cX4_init 32 = .ok (.putfield 22, 3) := by decide +kernel
theorem dX4_init_35 : decode cX4_init 35 = .ok (.aload_n 0, 1) := by decide +kernel
theorem dX4_init_36 : decode cX4_init 36 = .ok (.aload_n 1, 1) := by decide +kernel
theorem dX4_init_37 : decode cX4_init 37 = .ok (.putfield 25, 3) := by decide +kernel
theorem dX4_init_40 : decode cX4_init 40 = .ok (.return_, 1) := by decide +kernel
theorem dX4_forget_0 : decode cX4_forget 0 = .ok (.aload_n 0, 1) := by decide +kernel
theorem dX4_forget_1 : decode cX4_forget 1 = .ok (.iconst 0, 1) := by decide +kernel
theorem dX4_forget_2 : decode cX4_forget 2 = .ok (.putfield 29, 3) := by decide +kernel
theorem dX4_forget_5 : decode cX4_forget 5 = .ok (.return_, 1) := by decide +kernel
set_option maxRecDepth 20000 in
theorem ggX4_climb_X0_isLike : GoodIn wsX4_climb wsX0_isLike := goodIn_r _ [14, 15, 16, 17, 18, 195, 196, 197, 198] rfl (by decide +kernel)
set_option maxRecDepth 20000 in
theorem gX4_climb_X0_isLike : GoodIn wsX4_climb (wsV RX4 33 RX0 yX0_isLike wsX0_isLike) := goodIn_app (goodIn_of _ (by decide +kernel)) ggX4_climb_X0_isLike
set_option maxRecDepth 20000 in
theorem ggX4_climb_X0_take : GoodIn wsX4_climb wsX0_take := goodIn_r _ [22, 15, 16, 17, 18, 23, 24, 25, 13, 26, 195, 196, 197, 198] rfl (by decide +kernel)
set_option maxRecDepth 20000 in
theorem gX4_climb_X0_take : GoodIn wsX4_climb (wsV RX4 37 RX0 yX0_take wsX0_take) := goodIn_app (goodIn_of _ (by decide +kernel)) ggX4_climb_X0_take
set_option maxRecDepth 20000 in
theorem ggX4_climb_J7_fill_fda19 : GoodIn wsX4_climb wsJ7_fill_fda19 := goodIn_r _ [30, 31, 32, 29, 33] rfl (by decide +kernel)
set_option maxRecDepth 20000 in
theorem gX4_climb_J7_fill_fda19 : GoodIn wsX4_climb (va_wsS RX4 51 yJ7_fill_fda19 wsJ7_fill_fda19) := goodIn_app (goodIn_of _ (by decide +kernel)) ggX4_climb_J7_fill_fda19
set_option maxRecDepth 20000 in
theorem ggX4_climb_X4_spread : GoodIn wsX4_climb wsX4_spread := goodIn_r _ [38, 3, 39, 40, 5, 8, 41, 6, 42, 43, 44, 45, 46, 47, 48, 37, 49, 2, 50, 51, 52, 53, 54, 55, 56, 57, 58, 59, 60, 61, 62, 63, 64, 24, 25, 13, 26, 15, 16, 17, 18, 65, 66, 67, 68, 69, 70, 71, 72, 73, 74, 75, 76, 77, 78, 79, 80, 81, 82, 83, 84, 85, 86, 87, 88, 89, 90, 91, 92, 93, 94, 95, 96, 97, 98, 99, 100, 101, 102, 103, 104, 105, 106, 107, 108, 109, 110, 111, 112, 113, 114, 115, 116, 117, 118, 119, 120, 121, 122, 123, 124, 125, 126, 127, 128, 129, 130, 131, 132, 133, 134, 135, 136, 137, 138, 139, 140, 141, 142, 143, 144, 145, 146, 147, 148, 149, 150, 151, 152, 153, 154, 155, 156, 157, 158, 159, 160, 161, 162, 163, 164, 165, 166, 167, 168, 169, 170, 171, 172, 173, 174, 175, 176, 177, 178, 179, 180, 181, 182, 183, 184, 185, 186, 187, 188, 189, 190, 191, 192, 193, 194, 195, 196, 197, 198] rfl (by decide +kernel)
set_option maxRecDepth 20000 in
theorem gX4_climb_X4_spread : GoodIn wsX4_climb (wsV RX4 61 RX4 yX4_spread wsX4_spread) := goodIn_app (goodIn_of _ (by decide +kernel)) ggX4_climb_X4_spread
theorem dX4_climb_0 : decode cX4_climb 0 = .ok (.aload_n 0, 1) := by decide +kernel
theorem dX4_climb_1 : decode cX4_climb 1 = .ok (.getfield 29, 3) := by decide +kernel
theorem dX4_climb_4 : decode cX4_climb 4 = .ok (.ifCond .eq 16, 3) := by decide +kernel
theorem dX4_climb_7 : decode cX4_climb 7 = .ok (.aload_n 0, 1) := by decide +kernel
theorem dX4_climb_8 : decode cX4_climb 8 = .ok (.getfield 18, 3) := by decide +kernel
theorem dX4_climb_11 : decode cX4_climb 11 = .ok (.aload_n 2, 1) := by decide +kernel
theorem dX4_climb_12 : decode cX4_climb 12 = .ok (.invokevirtual 33, 3) := by decide +kernel
theorem dX4_climb_15 : decode cX4_climb 15 = .ok (.ifCond .eq 5, 3) := by decide +kernel
theorem dX4_climb_18 : decode cX4_climb 18 = .ok (.aload_n 0, 1) := by decide +kernel
theorem dX4_climb_19 : decode cX4_climb 19 = .ok (.areturn, 1) := by decide +kernel
theorem dX4_climb_20 : decode cX4_climb 20 = .ok (.aload_n 0, 1) := by decide +kernel
theorem dX4_climb_21 : decode cX4_climb 21 = .ok (.aload_n 1, 1) := by decide +kernel
theorem dX4_climb_22 : decode cX4_climb 22 = .ok (.putfield 25, 3) := by decide +kernel
theorem dX4_climb_25 : decode cX4_climb 25 = .ok (.aload_n 0, 1) := by decide +kernel
theorem dX4_climb_26 : decode cX4_climb 26 = .ok (.getfield 18, 3) := by decide +kernel
theorem dX4_climb_29 : decode cX4_climb 29 = .ok (.aload_n 2, 1) := by decide +kernel
theorem dX4_climb_30 : decode cX4_climb 30 = .ok (.invokevirtual 37, 3) := by decide +kernel
theorem dX4_climb_33 : decode cX4_climb 33 = .ok (.aload_n 0, 1) := by decide +kernel
theorem dX4_climb_34 : decode cX4_climb 34 = .ok (.iconst 1, 1) := by decide +kernel
theorem dX4_climb_35 : decode cX4_climb 35 = .ok (.putfield 29, 3) := by decide +kernel
theorem dX4_climb_38 : decode cX4_climb 38 = .ok (.aload_n 0, 1) := by decide +kernel
theorem dX4_climb_39 : decode cX4_climb 39 = .ok (.iconst 1, 1) := by decide +kernel
theorem dX4_climb_40 : decode cX4_climb 40 = .ok (.aload_n 0, 1) := by decide +kernel
theorem dX4_climb_41 : decode cX4_climb 41 = .ok (.getfield 25, 3) := by decide +kernel
theorem dX4_climb_44 : decode cX4_climb 44 = .ok (.getfield 41, 3) := by decide +kernel
theorem dX4_climb_47 : decode cX4_climb 47 = .ok (.ishl, 1) := by decide +kernel
theorem dX4_climb_48 : decode cX4_climb 48 = .ok (.putfield 47, 3) := by decide +kernel
theorem dX4_climb_51 : decode cX4_climb 51 = .ok (.aload_n 0, 1) := by decide +kernel
theorem dX4_climb_52 : decode cX4_climb 52 = .ok (.getfield 9, 3) := by decide +kernel
theorem dX4_climb_55 : decode cX4_climb 55 = .ok (.iconst 0, 1) := by decide +kernel
theorem dX4_climb_56 : decode cX4_climb 56 = .ok (.bipush 9, 2) := by decide +kernel
theorem dX4_climb_58 : decode cX4_climb 58 = .ok (.aload_n 0, 1) := by decide +kernel
theorem dX4_climb_59 : decode cX4_climb 59 = .ok (.getfield 47, 3) := by decide +kernel
theorem dX4_climb_62 : decode cX4_climb 62 = .ok (.imul, 1) := by decide +kernel
theorem dX4_climb_63 : decode cX4_climb 63 = .ok (.ldc 50, 2) := by decide +kernel
theorem dX4_climb_65 : decode cX4_climb 65 = .ok (.invokestatic 51, 3) := by decide +kernel
theorem dX4_climb_68 : decode cX4_climb 68 = .ok (.aload_n 2, 1) := by decide +kernel
theorem dX4_climb_69 : decode cX4_climb 69 = .ok (.getfield 57, 3) := by decide +kernel
theorem dX4_climb_72 : decode cX4_climb 72 = .ok (.ifCond .lt 30, 3) := by decide +kernel
theorem dX4_climb_75 : decode cX4_climb 75 = .ok (.aload_n 2, 1) := by decide +kernel
theorem dX4_climb_76 : decode cX4_climb 76 = .ok (.getfield 57, 3) := by decide +kernel
theorem dX4_climb_79 : decode cX4_climb 79 = .ok (.aload_n 0, 1) := by decide +kernel
theorem dX4_climb_80 : decode cX4_climb 80 = .ok (.getfield 47, 3) := by decide +kernel
theorem dX4_climb_83 : decode cX4_climb 83 = .ok (.if_icmp .ge 19, 3) := by decide +kernel
theorem dX4_climb_86 : decode cX4_climb 86 = .ok (.aload_n 0, 1) := by decide +kernel
theorem dX4_climb_87 : decode cX4_climb 87 = .ok (.getfield 9, 3) := by decide +kernel
theorem dX4_climb_90 : decode cX4_climb 90 = .ok (.aload_n 2, 1) := by decide +kernel
theorem dX4_climb_91 : decode cX4_climb 91 = .ok (.getfield 57, 3) := by decide +kernel
theorem dX4_climb_94 : decode cX4_climb 94 = .ok (.aload_n 2, 1) := by decide +kernel
theorem dX4_climb_95 : decode cX4_climb 95 = .ok (.getfield 58, 3) := by decide +kernel
theorem dX4_climb_98 : decode cX4_climb 98 = .ok (.bipush 14, 2) := by decide +kernel
theorem dX4_climb_100 : decode cX4_climb 100 = .ok (.ishl, 1) := by decide +kernel
theorem dX4_climb_101 : decode cX4_climb 101 = .ok (.iastore, 1) := by decide +kernel
theorem dX4_climb_102 : decode cX4_climb 102 = .ok (.iconst 0, 1) := by decide +kernel
theorem dX4_climb_103 : decode cX4_climb 103 = .ok (.istore_n 3, 1) := by decide +kernel
theorem dX4_climb_104 : decode cX4_climb 104 = .ok (.iload_n 3, 1) := by decide +kernel
theorem dX4_climb_105 : decode cX4_climb 105 = .ok (.bipush 8, 2) := by decide +kernel
theorem dX4_climb_107 : decode cX4_climb 107 = .ok (.aload_n 0, 1) := by decide +kernel
theorem dX4_climb_108 : decode cX4_climb 108 = .ok (.getfield 47, 3) := by decide +kernel
theorem dX4_climb_111 : decode cX4_climb 111 = .ok (.imul, 1) := by decide +kernel
theorem dX4_climb_112 : decode cX4_climb 112 = .ok (.if_icmp .ge 25, 3) := by decide +kernel
theorem dX4_climb_115 : decode cX4_climb 115 = .ok (.aload_n 0, 1) := by decide +kernel
theorem dX4_climb_116 : decode cX4_climb 116 = .ok (.getfield 9, 3) := by decide +kernel
theorem dX4_climb_119 : decode cX4_climb 119 = .ok (.iload_n 3, 1) := by decide +kernel
theorem dX4_climb_120 : decode cX4_climb 120 = .ok (.iaload, 1) := by decide +kernel
theorem dX4_climb_121 : decode cX4_climb 121 = .ok (.ldc 50, 2) := by decide +kernel
theorem dX4_climb_123 : decode cX4_climb 123 = .ok (.if_icmp .eq 8, 3) := by decide +kernel
theorem dX4_climb_126 : decode cX4_climb 126 = .ok (.aload_n 0, 1) := by decide +kernel
theorem dX4_climb_127 : decode cX4_climb 127 = .ok (.iload_n 3, 1) := by decide +kernel
theorem dX4_climb_128 : decode cX4_climb 128 = .ok (.invokevirtual 61, 3) := by decide +kernel
theorem dX4_climb_131 : decode cX4_climb 131 = .ok (.iinc 3 1, 3) := by decide +kernel
theorem dX4_climb_134 : decode cX4_climb 134 = .ok (.goto (-30), 3) := by decide +kernel
theorem dX4_climb_137 : decode cX4_climb 137 = .ok (.aload_n 0, 1) := by decide +kernel
theorem dX4_climb_138 : decode cX4_climb 138 = .ok (.areturn, 1) := by decide +kernel
set_option maxRecDepth 20000 in
theorem ggX4_stand_X4_setOf : GoodIn wsX4_stand wsX4_setOf := goodIn_r _ [9, 10, 29, 30, 31, 32, 33, 34] rfl (by decide +kernel)
set_option maxRecDepth 20000 in
theorem gX4_stand_X4_setOf : GoodIn wsX4_stand (wsV RX4 65 RX4 yX4_setOf wsX4_setOf) := goodIn_app (goodIn_of _ (by decide +kernel)) ggX4_stand_X4_setOf
set_option maxRecDepth 20000 in
theorem ggX4_stand_X4_seaOf : GoodIn wsX4_stand wsX4_seaOf := goodIn_r _ [14, 15, 29, 30, 31, 32, 33, 34] rfl (by decide +kernel)
set_option maxRecDepth 20000 in
theorem gX4_stand_X4_seaOf : GoodIn wsX4_stand (wsV RX4 69 RX4 yX4_seaOf wsX4_seaOf) := goodIn_app (goodIn_of _ (by decide +kernel)) ggX4_stand_X4_seaOf
set_option maxRecDepth 20000 in
theorem ggX4_stand_X4_wishesOf : GoodIn wsX4_stand wsX4_wishesOf := goodIn_r _ [19, 10, 29, 30, 31, 32, 33, 34] rfl (by decide +kernel)
set_option maxRecDepth 20000 in
theorem gX4_stand_X4_wishesOf : GoodIn wsX4_stand (wsV RX4 75 RX4 yX4_wishesOf wsX4_wishesOf) := goodIn_app (goodIn_of _ (by decide +kernel)) ggX4_stand_X4_wishesOf
set_option maxRecDepth 20000 in
theorem ggX4_stand_X0_put : GoodIn wsX4_stand wsX0_put := goodIn_r _ [24, 25, 26, 27, 28, 35, 36, 37, 38] rfl (by decide +kernel)
set_option maxRecDepth 20000 in
theorem gX4_stand_X0_put : GoodIn wsX4_stand (wsV RX4 81 RX0 yX0_put wsX0_put) := goodIn_app (goodIn_of _ (by decide +kernel)) ggX4_stand_X0_put
theorem dX4_stand_0 : decode cX4_stand 0 = .ok (.aload_n 0, 1) := by decide +kernel
theorem dX4_stand_1 : decode cX4_stand 1 = .ok (.getfield 22, 3) := by decide +kernel
theorem dX4_stand_4 : decode cX4_stand 4 = .ok (.aload_n 0, 1) := by decide +kernel
theorem dX4_stand_5 : decode cX4_stand 5 = .ok (.iload_n 1, 1) := by decide +kernel
theorem dX4_stand_6 : decode cX4_stand 6 = .ok (.invokevirtual 65, 3) := by decide +kernel
theorem dX4_stand_9 : decode cX4_stand 9 = .ok (.aload_n 0, 1) := by decide +kernel
theorem dX4_stand_10 : decode cX4_stand 10 = .ok (.iload_n 1, 1) := by decide +kernel
theorem dX4_stand_11 : decode cX4_stand 11 = .ok (.invokevirtual 69, 3) := by decide +kernel
theorem dX4_stand_14 : decode cX4_stand 14 = .ok (.aload_n 0, 1) := by decide +kernel
theorem dX4_stand_15 : decode cX4_stand 15 = .ok (.getfield 18, 3) := by decide +kernel
theorem dX4_stand_18 : decode cX4_stand 18 = .ok (.getfield 72, 3) := by decide +kernel
theorem dX4_stand_21 : decode cX4_stand 21 = .ok (.aload_n 0, 1) := by decide +kernel
theorem dX4_stand_22 : decode cX4_stand 22 = .ok (.iload_n 1, 1) := by decide +kernel
theorem dX4_stand_23 : decode cX4_stand 23 = .ok (.invokevirtual 75, 3) := by decide +kernel
