set_option maxHeartbeats 8000000 in
set_option maxRecDepth 100000 in
theorem s_X7_between_v0 (l : Launch) (dC : Nat → ClassId) (dI : Nat → Nat → Nat) (cI cJ cZ cM : ClassId) (x0 : Int64)  : k_Mi l yX7_between wsX7_between ({ frames := 1, cells := 0, slots := 0, locals := 40 }) (dC, dI) vwCl (tyy cI cJ cZ cM) [] [.long x0, .int 0, .int 99] 0 0 (fun (u9 : Unit) => []) (fun (r9 : Int32) (u9 : Unit) => (iR r9 0 99) ∧ (r9 = btw x0 0 99)) := by
  refine fun sz => k_enter (cc := cX7_between) (maxL := 4) (ret := some (.int)) (Qc := fun A => va_Qi (fun (r9 : Int32) (u9 : Unit) => (iR r9 0 99) ∧ (r9 = btw x0 0 99)) (fun u => k_B (dC, dI) vwCl (tyy cI cJ cZ cM) A ((fun (u9 : Unit) => []) u)) A) sz (by decide +kernel) rfl (Nat.le_of_ble_eq_true rfl) (fun p e s m args below meth c A ls H locs B hP hD hS hl => ?_)
  obtain ⟨hx, hb, hml, hown, hts, hr, hlk, hnm, hK, hA, hN, hC⟩ := id B
  have hown : s.vm.findClass RX7 = some m.cls := hown
  have hl : lv_has ls 4 [(0, .long x0), (2, .int 0), (3, .int 99)] := hl
  refine lv_lload_n hx hb dX7_between_0 rfl (lv_at hl 0 rfl) ?_
  refine lv_iload_n hx hb dX7_between_1 rfl (lv_at hl 1 rfl) ?_
  refine lv_i2l (v := 0) hx hb dX7_between_2 (by decide +kernel) ?_
  refine W.lcmp hx hb dX7_between_3 ?_
  refine lv_topi (fun y_3 ey_3 => ?_)
  refine lv_if_ge (tgt := 11) hx hb dX7_between_4 (by decide) (fun c_4 => ?_) (fun c_4 => ?_)
  · have c_4 : 0 ≤ y_3 := c_4
    have f_11_1 : iR y_3 0 2147483647 := iR_leR c_4 (iR_c (n := 0) (a := 0) (b := 0) (by decide +kernel) (by decide +kernel)) (iR_top _) (by decide +kernel)
    have lc_4 : 0 ≤ x0 := l_cmpge ey_3 c_4
    refine lv_lload_n hx hb dX7_between_11 rfl (lv_at hl 0 rfl) ?_
    refine lv_iload_n hx hb dX7_between_12 rfl (lv_at hl 2 rfl) ?_
    refine lv_i2l (v := 99) hx hb dX7_between_13 (by decide +kernel) ?_
    refine W.lcmp hx hb dX7_between_14 ?_
    refine lv_topi (fun y_14 ey_14 => ?_)
    refine lv_if_le (tgt := 22) hx hb dX7_between_15 (by decide) (fun c_15 => ?_) (fun c_15 => ?_)
    · have c_15 : y_14 ≤ 0 := c_15
      have f_22_2 : iR y_14 (-2147483648) 0 := iR_leL c_15 (iR_top _) (iR_c (n := 0) (a := 0) (b := 0) (by decide +kernel) (by decide +kernel)) (by decide +kernel)
      have lc_15 : x0 ≤ 99 := l_cmple ey_14 c_15
      have lb : lR x0 0 99 := lR_bt lc_4 lc_15 (lR_c (n := 0) (a := 0) (b := 0) (by decide +kernel) (by decide +kernel)) (lR_c (n := 99) (a := 99) (b := 99) (by decide +kernel) (by decide +kernel))
      refine lv_lload_n hx hb dX7_between_22 rfl (lv_at hl 0 rfl) ?_
      refine lv_l2i (v := x0.toInt32) hx hb dX7_between_23 rfl ?_
      refine lv_topi (fun y_23 ey_23 => ?_)
      have f_23_3 : iR y_23 0 99 := iR_l2i ey_23 lb (by decide +kernel)
      exact k_ri B hP hD hS dX7_between_24 () [] rfl rfl rfl (Nat.le_of_ble_eq_true rfl) (Nat.le_of_ble_eq_true rfl) ⟨(show iR y_23 0 99 from f_23_3), (show y_23 = btw x0 0 99 from (btw_md (y := 0) (z := 99) (by decide) lc_4 (by decide) lc_15 ey_23))⟩
    · have c_15 : 0 < y_14 := i_nle c_15
      have f_18_2 : iR y_14 1 2147483647 := iR_ltR c_15 (iR_c (n := 0) (a := 0) (b := 0) (by decide +kernel) (by decide +kernel)) (iR_top _) (by decide +kernel)
      have lc_15 : 99 < x0 := l_cmpgt ey_14 c_15
      refine lv_iload_n hx hb dX7_between_18 rfl (lv_at hl 2 rfl) ?_
      refine lv_goto (tgt := 24) hx hb dX7_between_19 (by decide) ?_
      exact k_ri B hP hD hS dX7_between_24 () [] rfl rfl rfl (Nat.le_of_ble_eq_true rfl) (Nat.le_of_ble_eq_true rfl) ⟨(show iR 99 0 99 from (iR_c (n := 99) (a := 0) (b := 99) (by decide +kernel) (by decide +kernel))), (show 99 = btw x0 0 99 from (btw_hi (y := 0) (z := 99) (by decide) lc_4 (by decide) lc_15))⟩
  · have c_4 : y_3 < 0 := i_nle c_4
    have f_7_1 : iR y_3 (-2147483648) (-1) := iR_ltL c_4 (iR_top _) (iR_c (n := 0) (a := 0) (b := 0) (by decide +kernel) (by decide +kernel)) (by decide +kernel)
    have lc_4 : x0 < 0 := l_cmplt ey_3 c_4
    refine lv_iload_n hx hb dX7_between_7 rfl (lv_at hl 1 rfl) ?_
    refine lv_goto (tgt := 24) hx hb dX7_between_8 (by decide) ?_
    exact k_ri B hP hD hS dX7_between_24 () [] rfl rfl rfl (Nat.le_of_ble_eq_true rfl) (Nat.le_of_ble_eq_true rfl) ⟨(show iR 0 0 99 from (iR_c (n := 0) (a := 0) (b := 99) (by decide +kernel) (by decide +kernel))), (show 0 = btw x0 0 99 from (btw_lo (y := 0) (by decide) lc_4))⟩
set_option maxHeartbeats 8000000 in
set_option maxRecDepth 100000 in
theorem s_X7_roomNow_v0 (l : Launch) (dC : Nat → ClassId) (dI : Nat → Nat → Nat) (cI cJ cZ cM : ClassId) (h : Nat) (r : Nat → Nat) (i : Nat → Int32) (j : Nat → Int64) (f14 : Nat → Int32) (f15 : Nat → Int32) (f16 : Nat → Int32) (f19 : Nat → Int32) (f20 : Nat → Int32) (f26 : Nat → Int32) (f27 : Nat → Int32) (f32 : Nat → Int32) (f33 : Nat → Int32) (g61 : Nat → Int64) (hI : mR i) (hf14 : aR f14 0 10) (hf15 : aR f15 0 9999) (hf20 : aR f20 0 9) (hf26 : aR f26 (-1) 1600) (hf27 : aR f27 0 1600) (hsg26 : SEG f26 f27 f32 (i 13).toNatClampNeg 1600) : k_Mi l yX7_roomNow wsX7_roomNow ({ frames := 5, cells := 0, slots := 0, locals := 131 }) (dC, dI) vwCl (tyy cI cJ cZ cM) [(h, .inr (7, oM r i j)), ((r 14), .inl (cI, 2, .inl f14)), ((r 15), .inl (cI, 20, .inl f15)), ((r 16), .inl (cI, 20, .inl f16)), ((r 19), .inl (cI, 24, .inl f19)), ((r 20), .inl (cI, 24, .inl f20)), ((r 26), .inl (cI, 2, .inl f26)), ((r 27), .inl (cI, 2, .inl f27)), ((r 32), .inl (cI, 3200, .inl f32)), ((r 33), .inl (cI, 3200, .inl f33)), ((r 61), .inl (cJ, 500, .inr (.inl g61)))] [.ref h] 0 0 (fun (u9 : SU) => [(h, .inr (7, oM r (upd i 66 (-1)) j)), ((r 14), .inl (cI, 2, .inl f14)), ((r 15), .inl (cI, 20, .inl f15)), ((r 16), .inl (cI, 20, .inl f16)), ((r 19), .inl (cI, 24, .inl f19)), ((r 20), .inl (cI, 24, .inl f20)), ((r 26), .inl (cI, 2, .inl f26)), ((r 27), .inl (cI, 2, .inl f27)), ((r 32), .inl (cI, 3200, .inl f32)), ((r 33), .inl (cI, 3200, .inl f33)), ((r 61), .inl (cJ, 500, .inr (.inl (u9.2.2.2.1 0))))]) (fun (r9 : Int32) (u9 : SU) => (iR r9 0 99) ∧ (r9 = rmf f26 f27 f32 f33 (envf f14 f15 f16 f19 f20 (i 13) (i 62) (i 63) (i 64) (i 65) (-1)) (i 13).toNatClampNeg)) := by
  refine fun sz => k_enter (cc := cX7_roomNow) (maxL := 1) (ret := some (.int)) (Qc := fun A => va_Qi (fun (r9 : Int32) (u9 : SU) => (iR r9 0 99) ∧ (r9 = rmf f26 f27 f32 f33 (envf f14 f15 f16 f19 f20 (i 13) (i 62) (i 63) (i 64) (i 65) (-1)) (i 13).toNatClampNeg)) (fun u => k_B (dC, dI) vwCl (tyy cI cJ cZ cM) A ((fun (u9 : SU) => [(h, .inr (7, oM r (upd i 66 (-1)) j)), ((r 14), .inl (cI, 2, .inl f14)), ((r 15), .inl (cI, 20, .inl f15)), ((r 16), .inl (cI, 20, .inl f16)), ((r 19), .inl (cI, 24, .inl f19)), ((r 20), .inl (cI, 24, .inl f20)), ((r 26), .inl (cI, 2, .inl f26)), ((r 27), .inl (cI, 2, .inl f27)), ((r 32), .inl (cI, 3200, .inl f32)), ((r 33), .inl (cI, 3200, .inl f33)), ((r 61), .inl (cJ, 500, .inr (.inl (u9.2.2.2.1 0))))]) u)) A) sz (by decide +kernel) rfl (Nat.le_of_ble_eq_true rfl) (fun p e s m args below meth c A ls H locs B hP hD hS hl => ?_)
  obtain ⟨hx, hb, hml, hown, hts, hr, hlk, hnm, hK, hA, hN, hC⟩ := id B
  have hown : s.vm.findClass RX7 = some m.cls := hown
  have hl : lv_has ls 1 [(0, .ref h)] := hl
  have w_0 : (Cond.fieldLink RX7 213 "WishSeaModel" "askedWish" "I").before args s = true := hts _ (List.mem_of_getElem? (i := 1) rfl)
  have w_1 : (Cond.fieldLink RX7 90 "WishSeaModel" "roomFrom" "[I").before args s = true := hts _ (List.mem_of_getElem? (i := 2) rfl)
  have w_2 : (Cond.fieldLink RX7 51 "WishSeaModel" "bank" "I").before args s = true := hts _ (List.mem_of_getElem? (i := 3) rfl)
  have w_3 : (Cond.fieldLink RX7 93 "WishSeaModel" "roomBehind" "[I").before args s = true := hts _ (List.mem_of_getElem? (i := 4) rfl)
  have hinX7 : ∀ w ∈ u_ws RX7 TX7 92, w ∈ wsX7_roomNow := fun _ h => List.mem_cons_of_mem _ (List.mem_append_right _ h)
  refine lv_aload_n hx hb dX7_roomNow_0 rfl (lv_at hl 0 rfl) ?_
  refine lv_iconst (v := (-1)) hx hb dX7_roomNow_1 (by decide +kernel) ?_
  refine k_put (D := (dC, dI)) (ci := 7) (v := .int (-1)) (C := RX7) (T := TX7) (N := 92) (ws' := [(h, .inr (7, oM r (upd i 66 (-1)) j)), ((r 14), .inl (cI, 2, .inl f14)), ((r 15), .inl (cI, 20, .inl f15)), ((r 16), .inl (cI, 20, .inl f16)), ((r 19), .inl (cI, 24, .inl f19)), ((r 20), .inl (cI, 24, .inl f20)), ((r 26), .inl (cI, 2, .inl f26)), ((r 27), .inl (cI, 2, .inl f27)), ((r 32), .inl (cI, 3200, .inl f32)), ((r 33), .inl (cI, 3200, .inl f33)), ((r 61), .inl (cJ, 500, .inr (.inl g61)))]) hx hb hts hinX7 tyX7 tyX7_ok nmX7 hown hK hP hD hS 0 rfl rfl 66 (by decide) w_0 rfl rfl rfl rfl (Nat.le_of_ble_eq_true rfl) rfl dX7_roomNow_2 (fun H locs hP hD hS => ?_)
  refine lv_aload_n hx hb dX7_roomNow_5 rfl (lv_at hl 0 rfl) ?_
  refine k_get (D := (dC, dI)) (ci := 7) (v := .ref (r 26)) (C := RX7) (T := TX7) (N := 92) hx hb hts hinX7 hown hK hP 0 rfl rfl 26 (by decide) w_1 rfl rfl dX7_roomNow_6 ?_
  refine lv_aload_n hx hb dX7_roomNow_9 rfl (lv_at hl 0 rfl) ?_
  have f_10_1 : iR (i 13) 0 1 := hI 13
  refine k_get (D := (dC, dI)) (ci := 7) (v := .int (i 13)) (C := RX7) (T := TX7) (N := 92) hx hb hts hinX7 hown hK hP 0 rfl rfl 13 (by decide) w_2 rfl rfl dX7_roomNow_10 ?_
  refine va_iald hx hb hK hP 6 0 rfl rfl (iR_vp f_10_1 (by decide +kernel)) dX7_roomNow_13 ?_
  have f_13_2 : iR (f26 (i 13).toNatClampNeg) (-1) 1600 := hf26 _
  refine lv_iconst (v := (-1)) hx hb dX7_roomNow_14 (by decide +kernel) ?_
  refine lv_icmp_ne (tgt := 23) hx hb dX7_roomNow_15 (by decide) (fun c_15 => ?_) (fun c_15 => ?_)
  · have c_15 : ¬ (f26 (i 13).toNatClampNeg) = (-1) := c_15
    have f_23_3 : iR (f26 (i 13).toNatClampNeg) 0 1600 := iR_neL c_15 f_13_2 (iR_c (n := (-1)) (a := (-1)) (b := (-1)) (by decide +kernel) (by decide +kernel)) (by decide +kernel)
    refine lv_aload_n hx hb dX7_roomNow_23 rfl (lv_at hl 0 rfl) ?_
    refine lv_aload_n hx hb dX7_roomNow_24 rfl (lv_at hl 0 rfl) ?_
    refine k_get (D := (dC, dI)) (ci := 7) (v := .ref (r 26)) (C := RX7) (T := TX7) (N := 92) hx hb hts hinX7 hown hK hP 0 rfl rfl 26 (by decide) w_1 rfl rfl dX7_roomNow_25 ?_
    refine lv_aload_n hx hb dX7_roomNow_28 rfl (lv_at hl 0 rfl) ?_
    refine k_get (D := (dC, dI)) (ci := 7) (v := .int (i 13)) (C := RX7) (T := TX7) (N := 92) hx hb hts hinX7 hown hK hP 0 rfl rfl 13 (by decide) w_2 rfl rfl dX7_roomNow_29 ?_
    refine va_iald hx hb hK hP 6 0 rfl rfl (iR_vp f_10_1 (by decide +kernel)) dX7_roomNow_32 ?_
    refine lv_aload_n hx hb dX7_roomNow_33 rfl (lv_at hl 0 rfl) ?_
    refine k_get (D := (dC, dI)) (ci := 7) (v := .ref (r 27)) (C := RX7) (T := TX7) (N := 92) hx hb hts hinX7 hown hK hP 0 rfl rfl 27 (by decide) w_3 rfl rfl dX7_roomNow_34 ?_
    refine lv_aload_n hx hb dX7_roomNow_37 rfl (lv_at hl 0 rfl) ?_
    refine k_get (D := (dC, dI)) (ci := 7) (v := .int (i 13)) (C := RX7) (T := TX7) (N := 92) hx hb hts hinX7 hown hK hP 0 rfl rfl 13 (by decide) w_2 rfl rfl dX7_roomNow_38 ?_
    refine va_iald hx hb hK hP 7 0 rfl rfl (iR_vp f_10_1 (by decide +kernel)) dX7_roomNow_41 ?_
    have f_41_4 : iR (f27 (i 13).toNatClampNeg) 0 1600 := hf27 _
    refine k_cl (wc := [(h, .inr (7, oM r (upd i 66 (-1)) j)), ((r 14), .inl (cI, 2, .inl f14)), ((r 15), .inl (cI, 20, .inl f15)), ((r 16), .inl (cI, 20, .inl f16)), ((r 19), .inl (cI, 24, .inl f19)), ((r 20), .inl (cI, 24, .inl f20)), ((r 32), .inl (cI, 3200, .inl f32)), ((r 33), .inl (cI, 3200, .inl f33)), ((r 61), .inl (cJ, 500, .inr (.inl g61)))]) (wr := [((r 26), .inl (cI, 2, .inl f26)), ((r 27), .inl (cI, 2, .inl f27))]) (fun hPc hDc hFc => va_runV (As := [.int (f26 (i 13).toNatClampNeg), .int (f27 (i 13).toNatClampNeg)]) (rest := []) ⟨hx, hb, hml, hown, hts⟩ (s_X7_reckons_v0 l dC dI cI cJ cZ cM h r (upd i 66 (-1)) j (f26 (i 13).toNatClampNeg) (f27 (i 13).toNatClampNeg) f14 f15 f16 f19 f20 f32 f33 g61 f_23_3 f_41_4 (mR_upd 66 hI (show iR _ (loI 66) (hiI 66) from (iR_c (n := (-1)) (a := (-1)) (b := 11) (by decide +kernel) (by decide +kernel)))) hf14 hf15 hf20 (SEG_cd hsg26 c_15) H.size) (cwV 2 hts gX7_roomNow_X7_reckons rfl rfl rfl (by decide +kernel) ⟨(Nat.le_of_ble_eq_true rfl), (Nat.le_of_ble_eq_true rfl)⟩) (k_pV hPc hDc hK hN hC hS hFc hP (q0 := 0) (ci := 7) rfl rfl) rfl rfl hl.1 rfl (lv_room (Nat.le_of_ble_eq_true rfl)) dX7_roomNow_42 ⟨(Nat.le_of_ble_eq_true rfl), (Nat.le_of_ble_eq_true rfl)⟩) hP hD hS hA [0, 1, 2, 3, 4, 5, 8, 9, 10] [6, 7] rfl rfl rfl rfl (by decide) (fun _ => rfl) 0 0 rfl rfl (fun r_42 u_42 H locs hw hP hD hS => ?_)
    have g_42_0 := hw
    have hP : va_P (dC, dI) vwCl [((r 26), .inl (cI, 2, .inl f26)), ((r 27), .inl (cI, 2, .inl f27)), (h, .inr (7, oM r (upd i 66 (-1)) j)), ((r 14), .inl (cI, 2, .inl f14)), ((r 15), .inl (cI, 20, .inl f15)), ((r 16), .inl (cI, 20, .inl f16)), ((r 19), .inl (cI, 24, .inl f19)), ((r 20), .inl (cI, 24, .inl f20)), ((r 32), .inl (cI, 3200, .inl f32)), ((r 33), .inl (cI, 3200, .inl f33)), ((r 61), .inl (cJ, 500, .inr (.inl (u_42.2.2.2.1 0))))] H := hP
    have hD : va_D A [((r 26), .inl (cI, 2, .inl f26)), ((r 27), .inl (cI, 2, .inl f27)), (h, .inr (7, oM r (upd i 66 (-1)) j)), ((r 14), .inl (cI, 2, .inl f14)), ((r 15), .inl (cI, 20, .inl f15)), ((r 16), .inl (cI, 20, .inl f16)), ((r 19), .inl (cI, 24, .inl f19)), ((r 20), .inl (cI, 24, .inl f20)), ((r 32), .inl (cI, 3200, .inl f32)), ((r 33), .inl (cI, 3200, .inl f33)), ((r 61), .inl (cJ, 500, .inr (.inl (u_42.2.2.2.1 0))))] := hD
    have g_42_0 : r_42 = rkv f32 f33 (envf f14 f15 f16 f19 f20 (i 13) (i 62) (i 63) (i 64) (i 65) (-1)) (i 13).toNatClampNeg (f26 (i 13).toNatClampNeg) (f27 (i 13).toNatClampNeg) := g_42_0
    refine lv_iconst (v := 0) hx hb dX7_roomNow_45 (by decide +kernel) ?_
    refine lv_bipush (v := 99) hx hb dX7_roomNow_46 (by decide +kernel) ?_
    refine k_ci (wc := []) (wr := [((r 26), .inl (cI, 2, .inl f26)), ((r 27), .inl (cI, 2, .inl f27)), (h, .inr (7, oM r (upd i 66 (-1)) j)), ((r 14), .inl (cI, 2, .inl f14)), ((r 15), .inl (cI, 20, .inl f15)), ((r 16), .inl (cI, 20, .inl f16)), ((r 19), .inl (cI, 24, .inl f19)), ((r 20), .inl (cI, 24, .inl f20)), ((r 32), .inl (cI, 3200, .inl f32)), ((r 33), .inl (cI, 3200, .inl f33)), ((r 61), .inl (cJ, 500, .inr (.inl (u_42.2.2.2.1 0))))]) (fun hPc hDc hFc => va_runS (As := [.long r_42, .int 0, .int 99]) (rest := []) ⟨hx, hb, hml, hown, hts⟩ (s_X7_between_v0 l dC dI cI cJ cZ cM r_42 H.size) (va_cwS 3 hts gX7_roomNow_X7_between rfl rfl rfl (by decide +kernel) ⟨(Nat.le_of_ble_eq_true rfl), (Nat.le_of_ble_eq_true rfl)⟩) (k_pS hPc hDc hK hN hC hS hFc) rfl rfl hl.1 rfl (lv_room (Nat.le_of_ble_eq_true rfl)) dX7_roomNow_48 ⟨(Nat.le_of_ble_eq_true rfl), (Nat.le_of_ble_eq_true rfl)⟩) hP hD hS hA [] [0, 1, 2, 3, 4, 5, 6, 7, 8, 9, 10] rfl rfl rfl rfl (by decide) (fun _ => rfl) 0 0 rfl rfl (fun r_48 u_48 H locs hw hP hD hS => ?_)
    obtain ⟨g_48_0, g_48_1⟩ := hw
    have hP : va_P (dC, dI) vwCl [((r 26), .inl (cI, 2, .inl f26)), ((r 27), .inl (cI, 2, .inl f27)), (h, .inr (7, oM r (upd i 66 (-1)) j)), ((r 14), .inl (cI, 2, .inl f14)), ((r 15), .inl (cI, 20, .inl f15)), ((r 16), .inl (cI, 20, .inl f16)), ((r 19), .inl (cI, 24, .inl f19)), ((r 20), .inl (cI, 24, .inl f20)), ((r 32), .inl (cI, 3200, .inl f32)), ((r 33), .inl (cI, 3200, .inl f33)), ((r 61), .inl (cJ, 500, .inr (.inl (u_42.2.2.2.1 0))))] H := hP
    have hD : va_D A [((r 26), .inl (cI, 2, .inl f26)), ((r 27), .inl (cI, 2, .inl f27)), (h, .inr (7, oM r (upd i 66 (-1)) j)), ((r 14), .inl (cI, 2, .inl f14)), ((r 15), .inl (cI, 20, .inl f15)), ((r 16), .inl (cI, 20, .inl f16)), ((r 19), .inl (cI, 24, .inl f19)), ((r 20), .inl (cI, 24, .inl f20)), ((r 32), .inl (cI, 3200, .inl f32)), ((r 33), .inl (cI, 3200, .inl f33)), ((r 61), .inl (cJ, 500, .inr (.inl (u_42.2.2.2.1 0))))] := hD
    have g_48_1 : r_48 = btw r_42 0 99 := g_48_1
    exact k_ri B hP hD hS dX7_roomNow_51 ((fun _ => 0), (fun _ => 0), (fun _ => (fun _ => 0)), (fun k9 => match k9 with | 0 => (u_42.2.2.2.1 0) | _ => (fun _ => 0)), (fun _ => 0)) [2, 3, 4, 5, 6, 7, 0, 1, 8, 9, 10] rfl rfl rfl (Nat.le_of_ble_eq_true rfl) (Nat.le_of_ble_eq_true rfl) ⟨(show iR r_48 0 99 from g_48_0), (show r_48 = rmf f26 f27 f32 f33 (envf f14 f15 f16 f19 f20 (i 13) (i 62) (i 63) (i 64) (i 65) (-1)) (i 13).toNatClampNeg from (rmf_s c_15 g_42_0 g_48_1))⟩
  · have c_15 : (f26 (i 13).toNatClampNeg) = (-1) := c_15
    have f_18_3 : iR (f26 (i 13).toNatClampNeg) (-1) (-1) := iR_eqL c_15 f_13_2 (iR_c (n := (-1)) (a := (-1)) (b := (-1)) (by decide +kernel) (by decide +kernel)) (by decide +kernel)
    refine lv_bipush (v := 99) hx hb dX7_roomNow_18 (by decide +kernel) ?_
    refine lv_goto (tgt := 51) hx hb dX7_roomNow_20 (by decide) ?_
    exact k_ri B hP hD hS dX7_roomNow_51 ((fun _ => 0), (fun _ => 0), (fun _ => (fun _ => 0)), (fun k9 => match k9 with | 0 => g61 | _ => (fun _ => 0)), (fun _ => 0)) [0, 1, 2, 3, 4, 5, 6, 7, 8, 9, 10] rfl rfl rfl (Nat.le_of_ble_eq_true rfl) (Nat.le_of_ble_eq_true rfl) ⟨(show iR 99 0 99 from (iR_c (n := 99) (a := 0) (b := 99) (by decide +kernel) (by decide +kernel))), (show 99 = rmf f26 f27 f32 f33 (envf f14 f15 f16 f19 f20 (i 13) (i 62) (i 63) (i 64) (i 65) (-1)) (i 13).toNatClampNeg from (rmf_n c_15))⟩
set_option maxHeartbeats 8000000 in
set_option maxRecDepth 100000 in
theorem s_X7_isContent_v0 (l : Launch) (dC : Nat → ClassId) (dI : Nat → Nat → Nat) (cI cJ cZ cM : ClassId) (h : Nat) (r : Nat → Nat) (i : Nat → Int32) (j : Nat → Int64) (f14 : Nat → Int32) (f15 : Nat → Int32) (f16 : Nat → Int32) (f19 : Nat → Int32) (f20 : Nat → Int32) (f28 : Nat → Int32) (f29 : Nat → Int32) (f32 : Nat → Int32) (f33 : Nat → Int32) (g61 : Nat → Int64) (hI : mR i) (hf14 : aR f14 0 10) (hf15 : aR f15 0 9999) (hf20 : aR f20 0 9) (hf28 : aR f28 (-1) 1600) (hf29 : aR f29 0 1600) (hsg28 : SEG f28 f29 f32 (i 13).toNatClampNeg 1600) : k_Mi l yX7_isContent wsX7_isContent ({ frames := 5, cells := 0, slots := 0, locals := 131 }) (dC, dI) vwCl (tyy cI cJ cZ cM) [(h, .inr (7, oM r i j)), ((r 14), .inl (cI, 2, .inl f14)), ((r 15), .inl (cI, 20, .inl f15)), ((r 16), .inl (cI, 20, .inl f16)), ((r 19), .inl (cI, 24, .inl f19)), ((r 20), .inl (cI, 24, .inl f20)), ((r 28), .inl (cI, 2, .inl f28)), ((r 29), .inl (cI, 2, .inl f29)), ((r 32), .inl (cI, 3200, .inl f32)), ((r 33), .inl (cI, 3200, .inl f33)), ((r 61), .inl (cJ, 500, .inr (.inl g61)))] [.ref h] 0 0 (fun (u9 : SU) => [(h, .inr (7, oM r (upd i 66 (-1)) j)), ((r 14), .inl (cI, 2, .inl f14)), ((r 15), .inl (cI, 20, .inl f15)), ((r 16), .inl (cI, 20, .inl f16)), ((r 19), .inl (cI, 24, .inl f19)), ((r 20), .inl (cI, 24, .inl f20)), ((r 28), .inl (cI, 2, .inl f28)), ((r 29), .inl (cI, 2, .inl f29)), ((r 32), .inl (cI, 3200, .inl f32)), ((r 33), .inl (cI, 3200, .inl f33)), ((r 61), .inl (cJ, 500, .inr (.inl (u9.2.2.2.1 0))))]) (fun (r9 : Int32) (u9 : SU) => (iR r9 0 1) ∧ (r9 = ctf f28 f29 f32 f33 (envf f14 f15 f16 f19 f20 (i 13) (i 62) (i 63) (i 64) (i 65) (-1)) (i 13).toNatClampNeg)) := by
  refine fun sz => k_enter (cc := cX7_isContent) (maxL := 1) (ret := some (.boolean)) (Qc := fun A => va_Qi (fun (r9 : Int32) (u9 : SU) => (iR r9 0 1) ∧ (r9 = ctf f28 f29 f32 f33 (envf f14 f15 f16 f19 f20 (i 13) (i 62) (i 63) (i 64) (i 65) (-1)) (i 13).toNatClampNeg)) (fun u => k_B (dC, dI) vwCl (tyy cI cJ cZ cM) A ((fun (u9 : SU) => [(h, .inr (7, oM r (upd i 66 (-1)) j)), ((r 14), .inl (cI, 2, .inl f14)), ((r 15), .inl (cI, 20, .inl f15)), ((r 16), .inl (cI, 20, .inl f16)), ((r 19), .inl (cI, 24, .inl f19)), ((r 20), .inl (cI, 24, .inl f20)), ((r 28), .inl (cI, 2, .inl f28)), ((r 29), .inl (cI, 2, .inl f29)), ((r 32), .inl (cI, 3200, .inl f32)), ((r 33), .inl (cI, 3200, .inl f33)), ((r 61), .inl (cJ, 500, .inr (.inl (u9.2.2.2.1 0))))]) u)) A) sz (by decide +kernel) rfl (Nat.le_of_ble_eq_true rfl) (fun p e s m args below meth c A ls H locs B hP hD hS hl => ?_)
  obtain ⟨hx, hb, hml, hown, hts, hr, hlk, hnm, hK, hA, hN, hC⟩ := id B
  have hown : s.vm.findClass RX7 = some m.cls := hown
  have hl : lv_has ls 1 [(0, .ref h)] := hl
  have w_0 : (Cond.fieldLink RX7 213 "WishSeaModel" "askedWish" "I").before args s = true := hts _ (List.mem_of_getElem? (i := 1) rfl)
  have w_1 : (Cond.fieldLink RX7 96 "WishSeaModel" "contentFrom" "[I").before args s = true := hts _ (List.mem_of_getElem? (i := 2) rfl)
  have w_2 : (Cond.fieldLink RX7 51 "WishSeaModel" "bank" "I").before args s = true := hts _ (List.mem_of_getElem? (i := 3) rfl)
  have w_3 : (Cond.fieldLink RX7 99 "WishSeaModel" "contentBehind" "[I").before args s = true := hts _ (List.mem_of_getElem? (i := 4) rfl)
  have hinX7 : ∀ w ∈ u_ws RX7 TX7 92, w ∈ wsX7_isContent := fun _ h => List.mem_cons_of_mem _ (List.mem_append_right _ h)
  refine lv_aload_n hx hb dX7_isContent_0 rfl (lv_at hl 0 rfl) ?_
  refine lv_iconst (v := (-1)) hx hb dX7_isContent_1 (by decide +kernel) ?_
  refine k_put (D := (dC, dI)) (ci := 7) (v := .int (-1)) (C := RX7) (T := TX7) (N := 92) (ws' := [(h, .inr (7, oM r (upd i 66 (-1)) j)), ((r 14), .inl (cI, 2, .inl f14)), ((r 15), .inl (cI, 20, .inl f15)), ((r 16), .inl (cI, 20, .inl f16)), ((r 19), .inl (cI, 24, .inl f19)), ((r 20), .inl (cI, 24, .inl f20)), ((r 28), .inl (cI, 2, .inl f28)), ((r 29), .inl (cI, 2, .inl f29)), ((r 32), .inl (cI, 3200, .inl f32)), ((r 33), .inl (cI, 3200, .inl f33)), ((r 61), .inl (cJ, 500, .inr (.inl g61)))]) hx hb hts hinX7 tyX7 tyX7_ok nmX7 hown hK hP hD hS 0 rfl rfl 66 (by decide) w_0 rfl rfl rfl rfl (Nat.le_of_ble_eq_true rfl) rfl dX7_isContent_2 (fun H locs hP hD hS => ?_)
  refine lv_aload_n hx hb dX7_isContent_5 rfl (lv_at hl 0 rfl) ?_
  refine k_get (D := (dC, dI)) (ci := 7) (v := .ref (r 28)) (C := RX7) (T := TX7) (N := 92) hx hb hts hinX7 hown hK hP 0 rfl rfl 28 (by decide) w_1 rfl rfl dX7_isContent_6 ?_
  refine lv_aload_n hx hb dX7_isContent_9 rfl (lv_at hl 0 rfl) ?_
  have f_10_1 : iR (i 13) 0 1 := hI 13
  refine k_get (D := (dC, dI)) (ci := 7) (v := .int (i 13)) (C := RX7) (T := TX7) (N := 92) hx hb hts hinX7 hown hK hP 0 rfl rfl 13 (by decide) w_2 rfl rfl dX7_isContent_10 ?_
  refine va_iald hx hb hK hP 6 0 rfl rfl (iR_vp f_10_1 (by decide +kernel)) dX7_isContent_13 ?_
  have f_13_2 : iR (f28 (i 13).toNatClampNeg) (-1) 1600 := hf28 _
  refine lv_iconst (v := (-1)) hx hb dX7_isContent_14 (by decide +kernel) ?_
  refine lv_icmp_eq (tgt := 49) hx hb dX7_isContent_15 (by decide) (fun c_15 => ?_) (fun c_15 => ?_)
  · have c_15 : (f28 (i 13).toNatClampNeg) = (-1) := c_15
    have f_49_3 : iR (f28 (i 13).toNatClampNeg) (-1) (-1) := iR_eqL c_15 f_13_2 (iR_c (n := (-1)) (a := (-1)) (b := (-1)) (by decide +kernel) (by decide +kernel)) (by decide +kernel)
    refine lv_iconst (v := 0) hx hb dX7_isContent_49 (by decide +kernel) ?_
    exact k_ri B hP hD hS dX7_isContent_50 ((fun _ => 0), (fun _ => 0), (fun _ => (fun _ => 0)), (fun k9 => match k9 with | 0 => g61 | _ => (fun _ => 0)), (fun _ => 0)) [0, 1, 2, 3, 4, 5, 6, 7, 8, 9, 10] rfl rfl rfl (Nat.le_of_ble_eq_true rfl) (Nat.le_of_ble_eq_true rfl) ⟨(show iR 0 0 1 from (iR_c (n := 0) (a := 0) (b := 1) (by decide +kernel) (by decide +kernel))), (show 0 = ctf f28 f29 f32 f33 (envf f14 f15 f16 f19 f20 (i 13) (i 62) (i 63) (i 64) (i 65) (-1)) (i 13).toNatClampNeg from (ctf_n c_15))⟩
  · have c_15 : ¬ (f28 (i 13).toNatClampNeg) = (-1) := c_15
    have f_18_3 : iR (f28 (i 13).toNatClampNeg) 0 1600 := iR_neL c_15 f_13_2 (iR_c (n := (-1)) (a := (-1)) (b := (-1)) (by decide +kernel) (by decide +kernel)) (by decide +kernel)
    refine lv_aload_n hx hb dX7_isContent_18 rfl (lv_at hl 0 rfl) ?_
    refine lv_aload_n hx hb dX7_isContent_19 rfl (lv_at hl 0 rfl) ?_
    refine k_get (D := (dC, dI)) (ci := 7) (v := .ref (r 28)) (C := RX7) (T := TX7) (N := 92) hx hb hts hinX7 hown hK hP 0 rfl rfl 28 (by decide) w_1 rfl rfl dX7_isContent_20 ?_
    refine lv_aload_n hx hb dX7_isContent_23 rfl (lv_at hl 0 rfl) ?_
    refine k_get (D := (dC, dI)) (ci := 7) (v := .int (i 13)) (C := RX7) (T := TX7) (N := 92) hx hb hts hinX7 hown hK hP 0 rfl rfl 13 (by decide) w_2 rfl rfl dX7_isContent_24 ?_
    refine va_iald hx hb hK hP 6 0 rfl rfl (iR_vp f_10_1 (by decide +kernel)) dX7_isContent_27 ?_
    refine lv_aload_n hx hb dX7_isContent_28 rfl (lv_at hl 0 rfl) ?_
    refine k_get (D := (dC, dI)) (ci := 7) (v := .ref (r 29)) (C := RX7) (T := TX7) (N := 92) hx hb hts hinX7 hown hK hP 0 rfl rfl 29 (by decide) w_3 rfl rfl dX7_isContent_29 ?_
    refine lv_aload_n hx hb dX7_isContent_32 rfl (lv_at hl 0 rfl) ?_
    refine k_get (D := (dC, dI)) (ci := 7) (v := .int (i 13)) (C := RX7) (T := TX7) (N := 92) hx hb hts hinX7 hown hK hP 0 rfl rfl 13 (by decide) w_2 rfl rfl dX7_isContent_33 ?_
    refine va_iald hx hb hK hP 7 0 rfl rfl (iR_vp f_10_1 (by decide +kernel)) dX7_isContent_36 ?_
    have f_36_4 : iR (f29 (i 13).toNatClampNeg) 0 1600 := hf29 _
    refine k_cl (wc := [(h, .inr (7, oM r (upd i 66 (-1)) j)), ((r 14), .inl (cI, 2, .inl f14)), ((r 15), .inl (cI, 20, .inl f15)), ((r 16), .inl (cI, 20, .inl f16)), ((r 19), .inl (cI, 24, .inl f19)), ((r 20), .inl (cI, 24, .inl f20)), ((r 32), .inl (cI, 3200, .inl f32)), ((r 33), .inl (cI, 3200, .inl f33)), ((r 61), .inl (cJ, 500, .inr (.inl g61)))]) (wr := [((r 28), .inl (cI, 2, .inl f28)), ((r 29), .inl (cI, 2, .inl f29))]) (fun hPc hDc hFc => va_runV (As := [.int (f28 (i 13).toNatClampNeg), .int (f29 (i 13).toNatClampNeg)]) (rest := []) ⟨hx, hb, hml, hown, hts⟩ (s_X7_reckons_v0 l dC dI cI cJ cZ cM h r (upd i 66 (-1)) j (f28 (i 13).toNatClampNeg) (f29 (i 13).toNatClampNeg) f14 f15 f16 f19 f20 f32 f33 g61 f_18_3 f_36_4 (mR_upd 66 hI (show iR _ (loI 66) (hiI 66) from (iR_c (n := (-1)) (a := (-1)) (b := 11) (by decide +kernel) (by decide +kernel)))) hf14 hf15 hf20 (SEG_cd hsg28 c_15) H.size) (cwV 2 hts gX7_isContent_X7_reckons rfl rfl rfl (by decide +kernel) ⟨(Nat.le_of_ble_eq_true rfl), (Nat.le_of_ble_eq_true rfl)⟩) (k_pV hPc hDc hK hN hC hS hFc hP (q0 := 0) (ci := 7) rfl rfl) rfl rfl hl.1 rfl (lv_room (Nat.le_of_ble_eq_true rfl)) dX7_isContent_37 ⟨(Nat.le_of_ble_eq_true rfl), (Nat.le_of_ble_eq_true rfl)⟩) hP hD hS hA [0, 1, 2, 3, 4, 5, 8, 9, 10] [6, 7] rfl rfl rfl rfl (by decide) (fun _ => rfl) 0 0 rfl rfl (fun r_37 u_37 H locs hw hP hD hS => ?_)
    have g_37_0 := hw
    have hP : va_P (dC, dI) vwCl [((r 28), .inl (cI, 2, .inl f28)), ((r 29), .inl (cI, 2, .inl f29)), (h, .inr (7, oM r (upd i 66 (-1)) j)), ((r 14), .inl (cI, 2, .inl f14)), ((r 15), .inl (cI, 20, .inl f15)), ((r 16), .inl (cI, 20, .inl f16)), ((r 19), .inl (cI, 24, .inl f19)), ((r 20), .inl (cI, 24, .inl f20)), ((r 32), .inl (cI, 3200, .inl f32)), ((r 33), .inl (cI, 3200, .inl f33)), ((r 61), .inl (cJ, 500, .inr (.inl (u_37.2.2.2.1 0))))] H := hP
    have hD : va_D A [((r 28), .inl (cI, 2, .inl f28)), ((r 29), .inl (cI, 2, .inl f29)), (h, .inr (7, oM r (upd i 66 (-1)) j)), ((r 14), .inl (cI, 2, .inl f14)), ((r 15), .inl (cI, 20, .inl f15)), ((r 16), .inl (cI, 20, .inl f16)), ((r 19), .inl (cI, 24, .inl f19)), ((r 20), .inl (cI, 24, .inl f20)), ((r 32), .inl (cI, 3200, .inl f32)), ((r 33), .inl (cI, 3200, .inl f33)), ((r 61), .inl (cJ, 500, .inr (.inl (u_37.2.2.2.1 0))))] := hD
    have g_37_0 : r_37 = rkv f32 f33 (envf f14 f15 f16 f19 f20 (i 13) (i 62) (i 63) (i 64) (i 65) (-1)) (i 13).toNatClampNeg (f28 (i 13).toNatClampNeg) (f29 (i 13).toNatClampNeg) := g_37_0
    refine lv_lconst (v := 1) hx hb dX7_isContent_40 (by decide +kernel) ?_
    refine W.lcmp hx hb dX7_isContent_41 ?_
    refine lv_topi (fun y_41 ey_41 => ?_)
    refine lv_if_ne (tgt := 49) hx hb dX7_isContent_42 (by decide) (fun c_42 => ?_) (fun c_42 => ?_)
    · have c_42 : ¬ y_41 = 0 := c_42
      have lc_42 : ¬ r_37 = 1 := l_cmpne ey_41 c_42
      refine lv_iconst (v := 0) hx hb dX7_isContent_49 (by decide +kernel) ?_
      exact k_ri B hP hD hS dX7_isContent_50 ((fun _ => 0), (fun _ => 0), (fun _ => (fun _ => 0)), (fun k9 => match k9 with | 0 => (u_37.2.2.2.1 0) | _ => (fun _ => 0)), (fun _ => 0)) [2, 3, 4, 5, 6, 7, 0, 1, 8, 9, 10] rfl rfl rfl (Nat.le_of_ble_eq_true rfl) (Nat.le_of_ble_eq_true rfl) ⟨(show iR 0 0 1 from (iR_c (n := 0) (a := 0) (b := 1) (by decide +kernel) (by decide +kernel))), (show 0 = ctf f28 f29 f32 f33 (envf f14 f15 f16 f19 f20 (i 13) (i 62) (i 63) (i 64) (i 65) (-1)) (i 13).toNatClampNeg from (ctf_0 c_15 g_37_0 lc_42))⟩
    · have c_42 : y_41 = 0 := c_42
      have f_45_5 : iR y_41 0 0 := iR_eqL c_42 (iR_top _) (iR_c (n := 0) (a := 0) (b := 0) (by decide +kernel) (by decide +kernel)) (by decide +kernel)
      have lc_42 : r_37 = 1 := l_cmpe ey_41 c_42
      refine lv_iconst (v := 1) hx hb dX7_isContent_45 (by decide +kernel) ?_
      refine lv_goto (tgt := 50) hx hb dX7_isContent_46 (by decide) ?_
      exact k_ri B hP hD hS dX7_isContent_50 ((fun _ => 0), (fun _ => 0), (fun _ => (fun _ => 0)), (fun k9 => match k9 with | 0 => (u_37.2.2.2.1 0) | _ => (fun _ => 0)), (fun _ => 0)) [2, 3, 4, 5, 6, 7, 0, 1, 8, 9, 10] rfl rfl rfl (Nat.le_of_ble_eq_true rfl) (Nat.le_of_ble_eq_true rfl) ⟨(show iR 1 0 1 from (iR_c (n := 1) (a := 0) (b := 1) (by decide +kernel) (by decide +kernel))), (show 1 = ctf f28 f29 f32 f33 (envf f14 f15 f16 f19 f20 (i 13) (i 62) (i 63) (i 64) (i 65) (-1)) (i 13).toNatClampNeg from (ctf_1 c_15 g_37_0 lc_42))⟩
set_option maxHeartbeats 8000000 in
set_option maxRecDepth 100000 in
theorem s_X7_has_v0 (l : Launch) (dC : Nat → ClassId) (dI : Nat → Nat → Nat) (cI cJ cZ cM : ClassId) (h : Nat) (r : Nat → Nat) (i : Nat → Int32) (j : Nat → Int64) (x1 : Int32) (f14 : Nat → Int32) (f15 : Nat → Int32) (f16 : Nat → Int32) (f18 : Nat → Int32) (f19 : Nat → Int32) (f20 : Nat → Int32) (f26 : Nat → Int32) (f27 : Nat → Int32) (f28 : Nat → Int32) (f29 : Nat → Int32) (f30 : Nat → Int32) (f31 : Nat → Int32) (f32 : Nat → Int32) (f33 : Nat → Int32) (f49 : Nat → Int32) (f50 : Nat → Int32) (f51 : Nat → Int32) (f52 : Nat → Int32) (f53 : Nat → Int32) (g61 : Nat → Int64) (hI : mR i) (hJ60 : lR (j 60) 0 2147483647) (hf14 : aR f14 0 10) (hf15 : aR f15 0 9999) (hf18 : aR f18 0 12) (hf20 : aR f20 0 9) (hf26 : aR f26 (-1) 1600) (hf27 : aR f27 0 1600) (hf28 : aR f28 (-1) 1600) (hf29 : aR f29 0 1600) (hf30 : aR f30 0 999) (hf31 : aR f31 0 999) (hf49 : aR f49 0 1023) (hf50 : aR f50 0 999) (hf53 : aR f53 0 50) (hsg26 : SEG f26 f27 f32 (i 13).toNatClampNeg 1600) (hsg28 : SEG f28 f29 f32 (i 13).toNatClampNeg 1600) : k_Mi l yX7_has wsX7_has ({ frames := 6, cells := 0, slots := 0, locals := 151 }) (dC, dI) vwCl (tyy cI cJ cZ cM) [(h, .inr (7, oM r i j)), ((r 14), .inl (cI, 2, .inl f14)), ((r 15), .inl (cI, 20, .inl f15)), ((r 16), .inl (cI, 20, .inl f16)), ((r 18), .inl (cI, 2, .inl f18)), ((r 19), .inl (cI, 24, .inl f19)), ((r 20), .inl (cI, 24, .inl f20)), ((r 26), .inl (cI, 2, .inl f26)), ((r 27), .inl (cI, 2, .inl f27)), ((r 28), .inl (cI, 2, .inl f28)), ((r 29), .inl (cI, 2, .inl f29)), ((r 30), .inl (cI, 2, .inl f30)), ((r 31), .inl (cI, 2, .inl f31)), ((r 32), .inl (cI, 3200, .inl f32)), ((r 33), .inl (cI, 3200, .inl f33)), ((r 49), .inl (cI, 22, .inl f49)), ((r 50), .inl (cI, 22, .inl f50)), ((r 51), .inl (cI, 22, .inl f51)), ((r 52), .inl (cI, 22, .inl f52)), ((r 53), .inl (cI, 22, .inl f53)), ((r 61), .inl (cJ, 500, .inr (.inl g61)))] [.ref h, .int x1] 0 0 (fun (u9 : SU) => [(h, .inr (7, oM r (upd (upd (upd (upd (upd i 62 (f49 0)) 63 (f50 0)) 64 (f51 0)) 65 (f52 0)) 66 (u9.1 0)) j)), ((r 14), .inl (cI, 2, .inl f14)), ((r 15), .inl (cI, 20, .inl f15)), ((r 16), .inl (cI, 20, .inl f16)), ((r 18), .inl (cI, 2, .inl f18)), ((r 19), .inl (cI, 24, .inl f19)), ((r 20), .inl (cI, 24, .inl f20)), ((r 26), .inl (cI, 2, .inl f26)), ((r 27), .inl (cI, 2, .inl f27)), ((r 28), .inl (cI, 2, .inl f28)), ((r 29), .inl (cI, 2, .inl f29)), ((r 30), .inl (cI, 2, .inl f30)), ((r 31), .inl (cI, 2, .inl f31)), ((r 32), .inl (cI, 3200, .inl f32)), ((r 33), .inl (cI, 3200, .inl f33)), ((r 49), .inl (cI, 22, .inl f49)), ((r 50), .inl (cI, 22, .inl f50)), ((r 51), .inl (cI, 22, .inl f51)), ((r 52), .inl (cI, 22, .inl f52)), ((r 53), .inl (cI, 22, .inl f53)), ((r 61), .inl (cJ, 500, .inr (.inl (u9.2.2.2.1 0))))]) (fun (r9 : Int32) (u9 : SU) => (iR (u9.1 0) (-1) 11)) := by
  refine fun sz => k_enter (cc := cX7_has) (maxL := 2) (ret := some (.int)) (Qc := fun A => va_Qi (fun (r9 : Int32) (u9 : SU) => (iR (u9.1 0) (-1) 11)) (fun u => k_B (dC, dI) vwCl (tyy cI cJ cZ cM) A ((fun (u9 : SU) => [(h, .inr (7, oM r (upd (upd (upd (upd (upd i 62 (f49 0)) 63 (f50 0)) 64 (f51 0)) 65 (f52 0)) 66 (u9.1 0)) j)), ((r 14), .inl (cI, 2, .inl f14)), ((r 15), .inl (cI, 20, .inl f15)), ((r 16), .inl (cI, 20, .inl f16)), ((r 18), .inl (cI, 2, .inl f18)), ((r 19), .inl (cI, 24, .inl f19)), ((r 20), .inl (cI, 24, .inl f20)), ((r 26), .inl (cI, 2, .inl f26)), ((r 27), .inl (cI, 2, .inl f27)), ((r 28), .inl (cI, 2, .inl f28)), ((r 29), .inl (cI, 2, .inl f29)), ((r 30), .inl (cI, 2, .inl f30)), ((r 31), .inl (cI, 2, .inl f31)), ((r 32), .inl (cI, 3200, .inl f32)), ((r 33), .inl (cI, 3200, .inl f33)), ((r 49), .inl (cI, 22, .inl f49)), ((r 50), .inl (cI, 22, .inl f50)), ((r 51), .inl (cI, 22, .inl f51)), ((r 52), .inl (cI, 22, .inl f52)), ((r 53), .inl (cI, 22, .inl f53)), ((r 61), .inl (cJ, 500, .inr (.inl (u9.2.2.2.1 0))))]) u)) A) sz (by decide +kernel) rfl (Nat.le_of_ble_eq_true rfl) (fun p e s m args below meth c A ls H locs B hP hD hS hl => ?_)
  obtain ⟨hx, hb, hml, hown, hts, hr, hlk, hnm, hK, hA, hN, hC⟩ := id B
  have hown : s.vm.findClass RX7 = some m.cls := hown
  have hl : lv_has ls 2 [(0, .ref h), (1, .int x1)] := hl
  have w_0 : (Cond.fieldLink RX7 54 "WishSeaModel" "things" "[I").before args s = true := hts _ (List.mem_of_getElem? (i := 1) rfl)
  have w_1 : (Cond.fieldLink RX7 51 "WishSeaModel" "bank" "I").before args s = true := hts _ (List.mem_of_getElem? (i := 2) rfl)
  have w_2 : (Cond.fieldLink RX7 66 "WishSeaModel" "wishes" "[I").before args s = true := hts _ (List.mem_of_getElem? (i := 3) rfl)
  have w_3 : (Cond.fieldLink RX7 162 "WishSeaModel" "hadOf" "[I").before args s = true := hts _ (List.mem_of_getElem? (i := 4) rfl)
  have w_4 : (Cond.fieldLink RX7 165 "WishSeaModel" "seaOf" "[I").before args s = true := hts _ (List.mem_of_getElem? (i := 5) rfl)
  have w_5 : (Cond.fieldLink RX7 168 "WishSeaModel" "saidOf" "[I").before args s = true := hts _ (List.mem_of_getElem? (i := 6) rfl)
  have w_6 : (Cond.fieldLink RX7 171 "WishSeaModel" "dayOf" "[I").before args s = true := hts _ (List.mem_of_getElem? (i := 7) rfl)
  have w_7 : (Cond.fieldLink RX7 102 "WishSeaModel" "bearing" "[I").before args s = true := hts _ (List.mem_of_getElem? (i := 8) rfl)
  have w_8 : (Cond.fieldLink RX7 105 "WishSeaModel" "calming" "[I").before args s = true := hts _ (List.mem_of_getElem? (i := 9) rfl)
  have w_9 : (Cond.fieldLink RX7 174 "WishSeaModel" "keptMany" "[I").before args s = true := hts _ (List.mem_of_getElem? (i := 10) rfl)
  have w_10 : (Cond.fieldLink RX7 192 "WishSeaModel" "undos" "I").before args s = true := hts _ (List.mem_of_getElem? (i := 11) rfl)
  have w_11 : (Cond.fieldLink RX7 195 "WishSeaModel" "seeds" "J").before args s = true := hts _ (List.mem_of_getElem? (i := 12) rfl)
  have hinX7 : ∀ w ∈ u_ws RX7 TX7 92, w ∈ wsX7_has := fun _ h => List.mem_cons_of_mem _ (List.mem_append_right _ h)
  refine lv_aload_n hx hb dX7_has_0 rfl (lv_at hl 0 rfl) ?_
  refine lv_iconst (v := 0) hx hb dX7_has_1 (by decide +kernel) ?_
  refine k_cv (wc := [(h, .inr (7, oM r i j)), ((r 49), .inl (cI, 22, .inl f49)), ((r 50), .inl (cI, 22, .inl f50)), ((r 51), .inl (cI, 22, .inl f51)), ((r 52), .inl (cI, 22, .inl f52))]) (wr := [((r 14), .inl (cI, 2, .inl f14)), ((r 15), .inl (cI, 20, .inl f15)), ((r 16), .inl (cI, 20, .inl f16)), ((r 18), .inl (cI, 2, .inl f18)), ((r 19), .inl (cI, 24, .inl f19)), ((r 20), .inl (cI, 24, .inl f20)), ((r 26), .inl (cI, 2, .inl f26)), ((r 27), .inl (cI, 2, .inl f27)), ((r 28), .inl (cI, 2, .inl f28)), ((r 29), .inl (cI, 2, .inl f29)), ((r 30), .inl (cI, 2, .inl f30)), ((r 31), .inl (cI, 2, .inl f31)), ((r 32), .inl (cI, 3200, .inl f32)), ((r 33), .inl (cI, 3200, .inl f33)), ((r 53), .inl (cI, 22, .inl f53)), ((r 61), .inl (cJ, 500, .inr (.inl g61)))]) (fun hPc hDc hFc => va_runV (As := [.int 0]) (rest := []) ⟨hx, hb, hml, hown, hts⟩ (s_X7_asksLayer_v0 l dC dI cI cJ cZ cM h r i j 0 f49 f50 f51 f52 (iR_c (n := 0) (a := 0) (b := 21) (by decide +kernel) (by decide +kernel)) hI hf49 hf50 H.size) (cwV 1 hts gX7_has_X7_asksLayer rfl rfl rfl (by decide +kernel) ⟨(Nat.le_of_ble_eq_true rfl), (Nat.le_of_ble_eq_true rfl)⟩) (k_pV hPc hDc hK hN hC hS hFc hP (q0 := 0) (ci := 7) rfl rfl) rfl rfl hl.1 rfl (lv_room (Nat.le_of_ble_eq_true rfl)) dX7_has_2 ⟨(Nat.le_of_ble_eq_true rfl), (Nat.le_of_ble_eq_true rfl)⟩) hP hD hS hA [0, 15, 16, 17, 18] [1, 2, 3, 4, 5, 6, 7, 8, 9, 10, 11, 12, 13, 14, 19, 20] rfl rfl rfl rfl (by decide) (fun _ => rfl) 0 0 rfl rfl (fun u_2 H locs hw hP hD hS => ?_)
  have hP : va_P (dC, dI) vwCl [((r 14), .inl (cI, 2, .inl f14)), ((r 15), .inl (cI, 20, .inl f15)), ((r 16), .inl (cI, 20, .inl f16)), ((r 18), .inl (cI, 2, .inl f18)), ((r 19), .inl (cI, 24, .inl f19)), ((r 20), .inl (cI, 24, .inl f20)), ((r 26), .inl (cI, 2, .inl f26)), ((r 27), .inl (cI, 2, .inl f27)), ((r 28), .inl (cI, 2, .inl f28)), ((r 29), .inl (cI, 2, .inl f29)), ((r 30), .inl (cI, 2, .inl f30)), ((r 31), .inl (cI, 2, .inl f31)), ((r 32), .inl (cI, 3200, .inl f32)), ((r 33), .inl (cI, 3200, .inl f33)), ((r 53), .inl (cI, 22, .inl f53)), ((r 61), .inl (cJ, 500, .inr (.inl g61))), (h, .inr (7, oM r (upd (upd (upd (upd i 62 (f49 0)) 63 (f50 0)) 64 (f51 0)) 65 (f52 0)) j)), ((r 49), .inl (cI, 22, .inl f49)), ((r 50), .inl (cI, 22, .inl f50)), ((r 51), .inl (cI, 22, .inl f51)), ((r 52), .inl (cI, 22, .inl f52))] H := hP
  have hD : va_D A [((r 14), .inl (cI, 2, .inl f14)), ((r 15), .inl (cI, 20, .inl f15)), ((r 16), .inl (cI, 20, .inl f16)), ((r 18), .inl (cI, 2, .inl f18)), ((r 19), .inl (cI, 24, .inl f19)), ((r 20), .inl (cI, 24, .inl f20)), ((r 26), .inl (cI, 2, .inl f26)), ((r 27), .inl (cI, 2, .inl f27)), ((r 28), .inl (cI, 2, .inl f28)), ((r 29), .inl (cI, 2, .inl f29)), ((r 30), .inl (cI, 2, .inl f30)), ((r 31), .inl (cI, 2, .inl f31)), ((r 32), .inl (cI, 3200, .inl f32)), ((r 33), .inl (cI, 3200, .inl f33)), ((r 53), .inl (cI, 22, .inl f53)), ((r 61), .inl (cJ, 500, .inr (.inl g61))), (h, .inr (7, oM r (upd (upd (upd (upd i 62 (f49 0)) 63 (f50 0)) 64 (f51 0)) 65 (f52 0)) j)), ((r 49), .inl (cI, 22, .inl f49)), ((r 50), .inl (cI, 22, .inl f50)), ((r 51), .inl (cI, 22, .inl f51)), ((r 52), .inl (cI, 22, .inl f52))] := hD
  refine lv_iload_n hx hb dX7_has_5 rfl (lv_at hl 1 rfl) ?_
  rcases (show x1.toInt = 0 ∨ x1.toInt = 1 ∨ x1.toInt = 2 ∨ x1.toInt = 3 ∨ x1.toInt = 4 ∨ x1.toInt = 5 ∨ x1.toInt = 6 ∨ x1.toInt = 7 ∨ x1.toInt = 8 ∨ x1.toInt = 9 ∨ x1.toInt = 10 ∨ x1.toInt = 11 ∨ x1.toInt = 12 ∨ x1.toInt = 13 ∨ (¬ x1.toInt = 0 ∧ ¬ x1.toInt = 1 ∧ ¬ x1.toInt = 2 ∧ ¬ x1.toInt = 3 ∧ ¬ x1.toInt = 4 ∧ ¬ x1.toInt = 5 ∧ ¬ x1.toInt = 6 ∧ ¬ x1.toInt = 7 ∧ ¬ x1.toInt = 8 ∧ ¬ x1.toInt = 9 ∧ ¬ x1.toInt = 10 ∧ ¬ x1.toInt = 11 ∧ ¬ x1.toInt = 12 ∧ ¬ x1.toInt = 13) by omega) with c_6 | c_6 | c_6 | c_6 | c_6 | c_6 | c_6 | c_6 | c_6 | c_6 | c_6 | c_6 | c_6 | c_6 | c_6
  · have f_76_1 : iR x1 0 0 := iR_c c_6 (by decide +kernel)
    refine lv_tableIn (off := 70) (tgt := 76) hx hb dX7_has_6 (by rw [c_6]; decide) (by rw [c_6]; decide) (by rw [c_6]; decide +kernel) (by decide +kernel) ?_
    refine lv_aload_n hx hb dX7_has_76 rfl (lv_at hl 0 rfl) ?_
    refine k_get (D := (dC, dI)) (ci := 7) (v := .ref (r 14)) (C := RX7) (T := TX7) (N := 92) hx hb hts hinX7 hown hK hP 16 rfl rfl 14 (by decide) w_0 rfl rfl dX7_has_77 ?_
    refine lv_aload_n hx hb dX7_has_80 rfl (lv_at hl 0 rfl) ?_
    have f_81_2 : iR (i 13) 0 1 := hI 13
    refine k_get (D := (dC, dI)) (ci := 7) (v := .int (i 13)) (C := RX7) (T := TX7) (N := 92) hx hb hts hinX7 hown hK hP 16 rfl rfl 13 (by decide) w_1 rfl rfl dX7_has_81 ?_
    refine va_iald hx hb hK hP 0 0 rfl rfl (iR_vp f_81_2 (by decide +kernel)) dX7_has_84 ?_
    have f_84_3 : iR (f14 (i 13).toNatClampNeg) 0 10 := hf14 _
    exact k_ri B hP hD hS dX7_has_85 ((fun k9 => match k9 with | 0 => (i 66) | _ => 0), (fun _ => 0), (fun _ => (fun _ => 0)), (fun k9 => match k9 with | 0 => g61 | _ => (fun _ => 0)), (fun _ => 0)) [16, 0, 1, 2, 3, 4, 5, 6, 7, 8, 9, 10, 11, 12, 13, 17, 18, 19, 20, 14, 15] rfl rfl rfl (Nat.le_of_ble_eq_true rfl) (Nat.le_of_ble_eq_true rfl) (show iR (i 66) (-1) 11 from (hI 66))
  · have f_86_1 : iR x1 1 1 := iR_c c_6 (by decide +kernel)
    refine lv_tableIn (off := 80) (tgt := 86) hx hb dX7_has_6 (by rw [c_6]; decide) (by rw [c_6]; decide) (by rw [c_6]; decide +kernel) (by decide +kernel) ?_
    refine lv_aload_n hx hb dX7_has_86 rfl (lv_at hl 0 rfl) ?_
    refine k_get (D := (dC, dI)) (ci := 7) (v := .ref (r 18)) (C := RX7) (T := TX7) (N := 92) hx hb hts hinX7 hown hK hP 16 rfl rfl 18 (by decide) w_2 rfl rfl dX7_has_87 ?_
    refine lv_aload_n hx hb dX7_has_90 rfl (lv_at hl 0 rfl) ?_
    have f_91_2 : iR (i 13) 0 1 := hI 13
    refine k_get (D := (dC, dI)) (ci := 7) (v := .int (i 13)) (C := RX7) (T := TX7) (N := 92) hx hb hts hinX7 hown hK hP 16 rfl rfl 13 (by decide) w_1 rfl rfl dX7_has_91 ?_
    refine va_iald hx hb hK hP 3 0 rfl rfl (iR_vp f_91_2 (by decide +kernel)) dX7_has_94 ?_
    have f_94_3 : iR (f18 (i 13).toNatClampNeg) 0 12 := hf18 _
    exact k_ri B hP hD hS dX7_has_95 ((fun k9 => match k9 with | 0 => (i 66) | _ => 0), (fun _ => 0), (fun _ => (fun _ => 0)), (fun k9 => match k9 with | 0 => g61 | _ => (fun _ => 0)), (fun _ => 0)) [16, 0, 1, 2, 3, 4, 5, 6, 7, 8, 9, 10, 11, 12, 13, 17, 18, 19, 20, 14, 15] rfl rfl rfl (Nat.le_of_ble_eq_true rfl) (Nat.le_of_ble_eq_true rfl) (show iR (i 66) (-1) 11 from (hI 66))
  · have f_96_1 : iR x1 2 2 := iR_c c_6 (by decide +kernel)
    refine lv_tableIn (off := 90) (tgt := 96) hx hb dX7_has_6 (by rw [c_6]; decide) (by rw [c_6]; decide) (by rw [c_6]; decide +kernel) (by decide +kernel) ?_
    refine lv_aload_n hx hb dX7_has_96 rfl (lv_at hl 0 rfl) ?_
    refine k_get (D := (dC, dI)) (ci := 7) (v := .ref (r 49)) (C := RX7) (T := TX7) (N := 92) hx hb hts hinX7 hown hK hP 16 rfl rfl 49 (by decide) w_3 rfl rfl dX7_has_97 ?_
    refine lv_iconst (v := 0) hx hb dX7_has_100 (by decide +kernel) ?_
    refine k_iald (v := (f49 0)) hx hb hK hP 17 0 0 rfl rfl rfl (Nat.le_of_ble_eq_true rfl) (Nat.le_of_ble_eq_true rfl) rfl dX7_has_101 ?_
    have f_101_2 : iR (f49 0) 0 1023 := hf49 _
    exact k_ri B hP hD hS dX7_has_102 ((fun k9 => match k9 with | 0 => (i 66) | _ => 0), (fun _ => 0), (fun _ => (fun _ => 0)), (fun k9 => match k9 with | 0 => g61 | _ => (fun _ => 0)), (fun _ => 0)) [16, 0, 1, 2, 3, 4, 5, 6, 7, 8, 9, 10, 11, 12, 13, 17, 18, 19, 20, 14, 15] rfl rfl rfl (Nat.le_of_ble_eq_true rfl) (Nat.le_of_ble_eq_true rfl) (show iR (i 66) (-1) 11 from (hI 66))
  · have f_103_1 : iR x1 3 3 := iR_c c_6 (by decide +kernel)
    refine lv_tableIn (off := 97) (tgt := 103) hx hb dX7_has_6 (by rw [c_6]; decide) (by rw [c_6]; decide) (by rw [c_6]; decide +kernel) (by decide +kernel) ?_
    refine lv_aload_n hx hb dX7_has_103 rfl (lv_at hl 0 rfl) ?_
    refine lv_aload_n hx hb dX7_has_104 rfl (lv_at hl 0 rfl) ?_
    refine k_get (D := (dC, dI)) (ci := 7) (v := .ref (r 49)) (C := RX7) (T := TX7) (N := 92) hx hb hts hinX7 hown hK hP 16 rfl rfl 49 (by decide) w_3 rfl rfl dX7_has_105 ?_
    refine lv_iconst (v := 0) hx hb dX7_has_108 (by decide +kernel) ?_
    refine k_iald (v := (f49 0)) hx hb hK hP 17 0 0 rfl rfl rfl (Nat.le_of_ble_eq_true rfl) (Nat.le_of_ble_eq_true rfl) rfl dX7_has_109 ?_
    have f_109_2 : iR (f49 0) 0 1023 := hf49 _
    refine k_ci (wc := [(h, .inr (7, oM r (upd (upd (upd (upd i 62 (f49 0)) 63 (f50 0)) 64 (f51 0)) 65 (f52 0)) j)), ((r 14), .inl (cI, 2, .inl f14)), ((r 15), .inl (cI, 20, .inl f15))]) (wr := [((r 16), .inl (cI, 20, .inl f16)), ((r 18), .inl (cI, 2, .inl f18)), ((r 19), .inl (cI, 24, .inl f19)), ((r 20), .inl (cI, 24, .inl f20)), ((r 26), .inl (cI, 2, .inl f26)), ((r 27), .inl (cI, 2, .inl f27)), ((r 28), .inl (cI, 2, .inl f28)), ((r 29), .inl (cI, 2, .inl f29)), ((r 30), .inl (cI, 2, .inl f30)), ((r 31), .inl (cI, 2, .inl f31)), ((r 32), .inl (cI, 3200, .inl f32)), ((r 33), .inl (cI, 3200, .inl f33)), ((r 53), .inl (cI, 22, .inl f53)), ((r 61), .inl (cJ, 500, .inr (.inl g61))), ((r 49), .inl (cI, 22, .inl f49)), ((r 50), .inl (cI, 22, .inl f50)), ((r 51), .inl (cI, 22, .inl f51)), ((r 52), .inl (cI, 22, .inl f52))]) (fun hPc hDc hFc => va_runV (As := [.int (f49 0)]) (rest := []) ⟨hx, hb, hml, hown, hts⟩ (s_X7_worthOf_v0 l dC dI cI cJ cZ cM h r (upd (upd (upd (upd i 62 (f49 0)) 63 (f50 0)) 64 (f51 0)) 65 (f52 0)) j (f49 0) f14 f15 (mR_upd 65 (mR_upd 64 (mR_upd 63 (mR_upd 62 hI (show iR _ (loI 62) (hiI 62) from (iR_top _))) (show iR _ (loI 63) (hiI 63) from (iR_top _))) (show iR _ (loI 64) (hiI 64) from (iR_top _))) (show iR _ (loI 65) (hiI 65) from (iR_top _))) hf14 hf15 H.size) (cwV 1 hts gX7_has_X7_worthOf rfl rfl rfl (by decide +kernel) ⟨(Nat.le_of_ble_eq_true rfl), (Nat.le_of_ble_eq_true rfl)⟩) (k_pV hPc hDc hK hN hC hS hFc hP (q0 := 16) (ci := 7) rfl rfl) rfl rfl hl.1 rfl (lv_room (Nat.le_of_ble_eq_true rfl)) dX7_has_110 ⟨(Nat.le_of_ble_eq_true rfl), (Nat.le_of_ble_eq_true rfl)⟩) hP hD hS hA [16, 0, 1] [2, 3, 4, 5, 6, 7, 8, 9, 10, 11, 12, 13, 14, 15, 17, 18, 19, 20] rfl rfl rfl rfl (by decide) (fun _ => rfl) 0 0 rfl rfl (fun r_110 u_110 H locs hw hP hD hS => ?_)
    obtain ⟨g_110_0, g_110_1⟩ := hw
    have hP : va_P (dC, dI) vwCl [((r 16), .inl (cI, 20, .inl f16)), ((r 18), .inl (cI, 2, .inl f18)), ((r 19), .inl (cI, 24, .inl f19)), ((r 20), .inl (cI, 24, .inl f20)), ((r 26), .inl (cI, 2, .inl f26)), ((r 27), .inl (cI, 2, .inl f27)), ((r 28), .inl (cI, 2, .inl f28)), ((r 29), .inl (cI, 2, .inl f29)), ((r 30), .inl (cI, 2, .inl f30)), ((r 31), .inl (cI, 2, .inl f31)), ((r 32), .inl (cI, 3200, .inl f32)), ((r 33), .inl (cI, 3200, .inl f33)), ((r 53), .inl (cI, 22, .inl f53)), ((r 61), .inl (cJ, 500, .inr (.inl g61))), ((r 49), .inl (cI, 22, .inl f49)), ((r 50), .inl (cI, 22, .inl f50)), ((r 51), .inl (cI, 22, .inl f51)), ((r 52), .inl (cI, 22, .inl f52)), (h, .inr (7, oM r (upd (upd (upd (upd i 62 (f49 0)) 63 (f50 0)) 64 (f51 0)) 65 (f52 0)) j)), ((r 14), .inl (cI, 2, .inl f14)), ((r 15), .inl (cI, 20, .inl f15))] H := hP
    have hD : va_D A [((r 16), .inl (cI, 20, .inl f16)), ((r 18), .inl (cI, 2, .inl f18)), ((r 19), .inl (cI, 24, .inl f19)), ((r 20), .inl (cI, 24, .inl f20)), ((r 26), .inl (cI, 2, .inl f26)), ((r 27), .inl (cI, 2, .inl f27)), ((r 28), .inl (cI, 2, .inl f28)), ((r 29), .inl (cI, 2, .inl f29)), ((r 30), .inl (cI, 2, .inl f30)), ((r 31), .inl (cI, 2, .inl f31)), ((r 32), .inl (cI, 3200, .inl f32)), ((r 33), .inl (cI, 3200, .inl f33)), ((r 53), .inl (cI, 22, .inl f53)), ((r 61), .inl (cJ, 500, .inr (.inl g61))), ((r 49), .inl (cI, 22, .inl f49)), ((r 50), .inl (cI, 22, .inl f50)), ((r 51), .inl (cI, 22, .inl f51)), ((r 52), .inl (cI, 22, .inl f52)), (h, .inr (7, oM r (upd (upd (upd (upd i 62 (f49 0)) 63 (f50 0)) 64 (f51 0)) 65 (f52 0)) j)), ((r 14), .inl (cI, 2, .inl f14)), ((r 15), .inl (cI, 20, .inl f15))] := hD
    have g_110_1 : r_110 = wof f15 (i 13).toNatClampNeg (f49 0) (f14 (i 13).toNatClampNeg).toNatClampNeg := g_110_1
    exact k_ri B hP hD hS dX7_has_113 ((fun k9 => match k9 with | 0 => (i 66) | _ => 0), (fun _ => 0), (fun _ => (fun _ => 0)), (fun k9 => match k9 with | 0 => g61 | _ => (fun _ => 0)), (fun _ => 0)) [18, 19, 20, 0, 1, 2, 3, 4, 5, 6, 7, 8, 9, 10, 11, 14, 15, 16, 17, 12, 13] rfl rfl rfl (Nat.le_of_ble_eq_true rfl) (Nat.le_of_ble_eq_true rfl) (show iR (i 66) (-1) 11 from (hI 66))
  · have f_114_1 : iR x1 4 4 := iR_c c_6 (by decide +kernel)
    refine lv_tableIn (off := 108) (tgt := 114) hx hb dX7_has_6 (by rw [c_6]; decide) (by rw [c_6]; decide) (by rw [c_6]; decide +kernel) (by decide +kernel) ?_
    refine lv_aload_n hx hb dX7_has_114 rfl (lv_at hl 0 rfl) ?_
    refine k_get (D := (dC, dI)) (ci := 7) (v := .ref (r 50)) (C := RX7) (T := TX7) (N := 92) hx hb hts hinX7 hown hK hP 16 rfl rfl 50 (by decide) w_4 rfl rfl dX7_has_115 ?_
    refine lv_iconst (v := 0) hx hb dX7_has_118 (by decide +kernel) ?_
    refine k_iald (v := (f50 0)) hx hb hK hP 18 0 0 rfl rfl rfl (Nat.le_of_ble_eq_true rfl) (Nat.le_of_ble_eq_true rfl) rfl dX7_has_119 ?_
    have f_119_2 : iR (f50 0) 0 999 := hf50 _
    exact k_ri B hP hD hS dX7_has_120 ((fun k9 => match k9 with | 0 => (i 66) | _ => 0), (fun _ => 0), (fun _ => (fun _ => 0)), (fun k9 => match k9 with | 0 => g61 | _ => (fun _ => 0)), (fun _ => 0)) [16, 0, 1, 2, 3, 4, 5, 6, 7, 8, 9, 10, 11, 12, 13, 17, 18, 19, 20, 14, 15] rfl rfl rfl (Nat.le_of_ble_eq_true rfl) (Nat.le_of_ble_eq_true rfl) (show iR (i 66) (-1) 11 from (hI 66))
  · have f_121_1 : iR x1 5 5 := iR_c c_6 (by decide +kernel)
    refine lv_tableIn (off := 115) (tgt := 121) hx hb dX7_has_6 (by rw [c_6]; decide) (by rw [c_6]; decide) (by rw [c_6]; decide +kernel) (by decide +kernel) ?_
    refine lv_aload_n hx hb dX7_has_121 rfl (lv_at hl 0 rfl) ?_
    refine k_get (D := (dC, dI)) (ci := 7) (v := .ref (r 51)) (C := RX7) (T := TX7) (N := 92) hx hb hts hinX7 hown hK hP 16 rfl rfl 51 (by decide) w_5 rfl rfl dX7_has_122 ?_
    refine lv_iconst (v := 0) hx hb dX7_has_125 (by decide +kernel) ?_
    refine k_iald (v := (f51 0)) hx hb hK hP 19 0 0 rfl rfl rfl (Nat.le_of_ble_eq_true rfl) (Nat.le_of_ble_eq_true rfl) rfl dX7_has_126 ?_
    exact k_ri B hP hD hS dX7_has_127 ((fun k9 => match k9 with | 0 => (i 66) | _ => 0), (fun _ => 0), (fun _ => (fun _ => 0)), (fun k9 => match k9 with | 0 => g61 | _ => (fun _ => 0)), (fun _ => 0)) [16, 0, 1, 2, 3, 4, 5, 6, 7, 8, 9, 10, 11, 12, 13, 17, 18, 19, 20, 14, 15] rfl rfl rfl (Nat.le_of_ble_eq_true rfl) (Nat.le_of_ble_eq_true rfl) (show iR (i 66) (-1) 11 from (hI 66))
  · have f_128_1 : iR x1 6 6 := iR_c c_6 (by decide +kernel)
    refine lv_tableIn (off := 122) (tgt := 128) hx hb dX7_has_6 (by rw [c_6]; decide) (by rw [c_6]; decide) (by rw [c_6]; decide +kernel) (by decide +kernel) ?_
    refine lv_aload_n hx hb dX7_has_128 rfl (lv_at hl 0 rfl) ?_
    refine k_get (D := (dC, dI)) (ci := 7) (v := .ref (r 52)) (C := RX7) (T := TX7) (N := 92) hx hb hts hinX7 hown hK hP 16 rfl rfl 52 (by decide) w_6 rfl rfl dX7_has_129 ?_
    refine lv_iconst (v := 0) hx hb dX7_has_132 (by decide +kernel) ?_
    refine k_iald (v := (f52 0)) hx hb hK hP 20 0 0 rfl rfl rfl (Nat.le_of_ble_eq_true rfl) (Nat.le_of_ble_eq_true rfl) rfl dX7_has_133 ?_
    exact k_ri B hP hD hS dX7_has_134 ((fun k9 => match k9 with | 0 => (i 66) | _ => 0), (fun _ => 0), (fun _ => (fun _ => 0)), (fun k9 => match k9 with | 0 => g61 | _ => (fun _ => 0)), (fun _ => 0)) [16, 0, 1, 2, 3, 4, 5, 6, 7, 8, 9, 10, 11, 12, 13, 17, 18, 19, 20, 14, 15] rfl rfl rfl (Nat.le_of_ble_eq_true rfl) (Nat.le_of_ble_eq_true rfl) (show iR (i 66) (-1) 11 from (hI 66))
  · have f_135_1 : iR x1 7 7 := iR_c c_6 (by decide +kernel)
    refine lv_tableIn (off := 129) (tgt := 135) hx hb dX7_has_6 (by rw [c_6]; decide) (by rw [c_6]; decide) (by rw [c_6]; decide +kernel) (by decide +kernel) ?_
    refine lv_aload_n hx hb dX7_has_135 rfl (lv_at hl 0 rfl) ?_
    refine k_ci (wc := [(h, .inr (7, oM r (upd (upd (upd (upd i 62 (f49 0)) 63 (f50 0)) 64 (f51 0)) 65 (f52 0)) j)), ((r 14), .inl (cI, 2, .inl f14)), ((r 15), .inl (cI, 20, .inl f15)), ((r 16), .inl (cI, 20, .inl f16)), ((r 19), .inl (cI, 24, .inl f19)), ((r 20), .inl (cI, 24, .inl f20)), ((r 26), .inl (cI, 2, .inl f26)), ((r 27), .inl (cI, 2, .inl f27)), ((r 32), .inl (cI, 3200, .inl f32)), ((r 33), .inl (cI, 3200, .inl f33)), ((r 61), .inl (cJ, 500, .inr (.inl g61)))]) (wr := [((r 18), .inl (cI, 2, .inl f18)), ((r 28), .inl (cI, 2, .inl f28)), ((r 29), .inl (cI, 2, .inl f29)), ((r 30), .inl (cI, 2, .inl f30)), ((r 31), .inl (cI, 2, .inl f31)), ((r 53), .inl (cI, 22, .inl f53)), ((r 49), .inl (cI, 22, .inl f49)), ((r 50), .inl (cI, 22, .inl f50)), ((r 51), .inl (cI, 22, .inl f51)), ((r 52), .inl (cI, 22, .inl f52))]) (fun hPc hDc hFc => va_runV (As := []) (rest := []) ⟨hx, hb, hml, hown, hts⟩ (s_X7_roomNow_v0 l dC dI cI cJ cZ cM h r (upd (upd (upd (upd i 62 (f49 0)) 63 (f50 0)) 64 (f51 0)) 65 (f52 0)) j f14 f15 f16 f19 f20 f26 f27 f32 f33 g61 (mR_upd 65 (mR_upd 64 (mR_upd 63 (mR_upd 62 hI (show iR _ (loI 62) (hiI 62) from (iR_top _))) (show iR _ (loI 63) (hiI 63) from (iR_top _))) (show iR _ (loI 64) (hiI 64) from (iR_top _))) (show iR _ (loI 65) (hiI 65) from (iR_top _))) hf14 hf15 hf20 hf26 hf27 hsg26 H.size) (cwV 0 hts gX7_has_X7_roomNow rfl rfl rfl (by decide +kernel) ⟨(Nat.le_of_ble_eq_true rfl), (Nat.le_of_ble_eq_true rfl)⟩) (k_pV hPc hDc hK hN hC hS hFc hP (q0 := 16) (ci := 7) rfl rfl) rfl rfl hl.1 rfl (lv_room (Nat.le_of_ble_eq_true rfl)) dX7_has_136 ⟨(Nat.le_of_ble_eq_true rfl), (Nat.le_of_ble_eq_true rfl)⟩) hP hD hS hA [16, 0, 1, 2, 4, 5, 6, 7, 12, 13, 15] [3, 8, 9, 10, 11, 14, 17, 18, 19, 20] rfl rfl rfl rfl (by decide) (fun _ => rfl) 0 0 rfl rfl (fun r_136 u_136 H locs hw hP hD hS => ?_)
    obtain ⟨g_136_0, g_136_1⟩ := hw
    have hP : va_P (dC, dI) vwCl [((r 18), .inl (cI, 2, .inl f18)), ((r 28), .inl (cI, 2, .inl f28)), ((r 29), .inl (cI, 2, .inl f29)), ((r 30), .inl (cI, 2, .inl f30)), ((r 31), .inl (cI, 2, .inl f31)), ((r 53), .inl (cI, 22, .inl f53)), ((r 49), .inl (cI, 22, .inl f49)), ((r 50), .inl (cI, 22, .inl f50)), ((r 51), .inl (cI, 22, .inl f51)), ((r 52), .inl (cI, 22, .inl f52)), (h, .inr (7, oM r (upd (upd (upd (upd (upd i 62 (f49 0)) 63 (f50 0)) 64 (f51 0)) 65 (f52 0)) 66 (-1)) j)), ((r 14), .inl (cI, 2, .inl f14)), ((r 15), .inl (cI, 20, .inl f15)), ((r 16), .inl (cI, 20, .inl f16)), ((r 19), .inl (cI, 24, .inl f19)), ((r 20), .inl (cI, 24, .inl f20)), ((r 26), .inl (cI, 2, .inl f26)), ((r 27), .inl (cI, 2, .inl f27)), ((r 32), .inl (cI, 3200, .inl f32)), ((r 33), .inl (cI, 3200, .inl f33)), ((r 61), .inl (cJ, 500, .inr (.inl (u_136.2.2.2.1 0))))] H := hP
    have hD : va_D A [((r 18), .inl (cI, 2, .inl f18)), ((r 28), .inl (cI, 2, .inl f28)), ((r 29), .inl (cI, 2, .inl f29)), ((r 30), .inl (cI, 2, .inl f30)), ((r 31), .inl (cI, 2, .inl f31)), ((r 53), .inl (cI, 22, .inl f53)), ((r 49), .inl (cI, 22, .inl f49)), ((r 50), .inl (cI, 22, .inl f50)), ((r 51), .inl (cI, 22, .inl f51)), ((r 52), .inl (cI, 22, .inl f52)), (h, .inr (7, oM r (upd (upd (upd (upd (upd i 62 (f49 0)) 63 (f50 0)) 64 (f51 0)) 65 (f52 0)) 66 (-1)) j)), ((r 14), .inl (cI, 2, .inl f14)), ((r 15), .inl (cI, 20, .inl f15)), ((r 16), .inl (cI, 20, .inl f16)), ((r 19), .inl (cI, 24, .inl f19)), ((r 20), .inl (cI, 24, .inl f20)), ((r 26), .inl (cI, 2, .inl f26)), ((r 27), .inl (cI, 2, .inl f27)), ((r 32), .inl (cI, 3200, .inl f32)), ((r 33), .inl (cI, 3200, .inl f33)), ((r 61), .inl (cJ, 500, .inr (.inl (u_136.2.2.2.1 0))))] := hD
    have g_136_1 : r_136 = rmf f26 f27 f32 f33 (envf f14 f15 f16 f19 f20 (i 13) (f49 0) (f50 0) (f51 0) (f52 0) (-1)) (i 13).toNatClampNeg := g_136_1
    exact k_ri B hP hD hS dX7_has_139 ((fun k9 => match k9 with | 0 => -1 | _ => 0), (fun _ => 0), (fun _ => (fun _ => 0)), (fun k9 => match k9 with | 0 => (u_136.2.2.2.1 0) | _ => (fun _ => 0)), (fun _ => 0)) [10, 11, 12, 13, 0, 14, 15, 16, 17, 1, 2, 3, 4, 18, 19, 6, 7, 8, 9, 5, 20] rfl rfl rfl (Nat.le_of_ble_eq_true rfl) (Nat.le_of_ble_eq_true rfl) (show iR (-1) (-1) 11 from (iR_c (n := (-1)) (a := (-1)) (b := 11) (by decide +kernel) (by decide +kernel)))
  · have f_140_1 : iR x1 8 8 := iR_c c_6 (by decide +kernel)
    refine lv_tableIn (off := 134) (tgt := 140) hx hb dX7_has_6 (by rw [c_6]; decide) (by rw [c_6]; decide) (by rw [c_6]; decide +kernel) (by decide +kernel) ?_
    refine lv_aload_n hx hb dX7_has_140 rfl (lv_at hl 0 rfl) ?_
    refine k_ci (wc := [(h, .inr (7, oM r (upd (upd (upd (upd i 62 (f49 0)) 63 (f50 0)) 64 (f51 0)) 65 (f52 0)) j)), ((r 14), .inl (cI, 2, .inl f14)), ((r 15), .inl (cI, 20, .inl f15)), ((r 16), .inl (cI, 20, .inl f16)), ((r 19), .inl (cI, 24, .inl f19)), ((r 20), .inl (cI, 24, .inl f20)), ((r 28), .inl (cI, 2, .inl f28)), ((r 29), .inl (cI, 2, .inl f29)), ((r 32), .inl (cI, 3200, .inl f32)), ((r 33), .inl (cI, 3200, .inl f33)), ((r 61), .inl (cJ, 500, .inr (.inl g61)))]) (wr := [((r 18), .inl (cI, 2, .inl f18)), ((r 26), .inl (cI, 2, .inl f26)), ((r 27), .inl (cI, 2, .inl f27)), ((r 30), .inl (cI, 2, .inl f30)), ((r 31), .inl (cI, 2, .inl f31)), ((r 53), .inl (cI, 22, .inl f53)), ((r 49), .inl (cI, 22, .inl f49)), ((r 50), .inl (cI, 22, .inl f50)), ((r 51), .inl (cI, 22, .inl f51)), ((r 52), .inl (cI, 22, .inl f52))]) (fun hPc hDc hFc => va_runV (As := []) (rest := []) ⟨hx, hb, hml, hown, hts⟩ (s_X7_isContent_v0 l dC dI cI cJ cZ cM h r (upd (upd (upd (upd i 62 (f49 0)) 63 (f50 0)) 64 (f51 0)) 65 (f52 0)) j f14 f15 f16 f19 f20 f28 f29 f32 f33 g61 (mR_upd 65 (mR_upd 64 (mR_upd 63 (mR_upd 62 hI (show iR _ (loI 62) (hiI 62) from (iR_top _))) (show iR _ (loI 63) (hiI 63) from (iR_top _))) (show iR _ (loI 64) (hiI 64) from (iR_top _))) (show iR _ (loI 65) (hiI 65) from (iR_top _))) hf14 hf15 hf20 hf28 hf29 hsg28 H.size) (cwV 0 hts gX7_has_X7_isContent rfl rfl rfl (by decide +kernel) ⟨(Nat.le_of_ble_eq_true rfl), (Nat.le_of_ble_eq_true rfl)⟩) (k_pV hPc hDc hK hN hC hS hFc hP (q0 := 16) (ci := 7) rfl rfl) rfl rfl hl.1 rfl (lv_room (Nat.le_of_ble_eq_true rfl)) dX7_has_141 ⟨(Nat.le_of_ble_eq_true rfl), (Nat.le_of_ble_eq_true rfl)⟩) hP hD hS hA [16, 0, 1, 2, 4, 5, 8, 9, 12, 13, 15] [3, 6, 7, 10, 11, 14, 17, 18, 19, 20] rfl rfl rfl rfl (by decide) (fun _ => rfl) 0 0 rfl rfl (fun r_141 u_141 H locs hw hP hD hS => ?_)
    obtain ⟨g_141_0, g_141_1⟩ := hw
    have hP : va_P (dC, dI) vwCl [((r 18), .inl (cI, 2, .inl f18)), ((r 26), .inl (cI, 2, .inl f26)), ((r 27), .inl (cI, 2, .inl f27)), ((r 30), .inl (cI, 2, .inl f30)), ((r 31), .inl (cI, 2, .inl f31)), ((r 53), .inl (cI, 22, .inl f53)), ((r 49), .inl (cI, 22, .inl f49)), ((r 50), .inl (cI, 22, .inl f50)), ((r 51), .inl (cI, 22, .inl f51)), ((r 52), .inl (cI, 22, .inl f52)), (h, .inr (7, oM r (upd (upd (upd (upd (upd i 62 (f49 0)) 63 (f50 0)) 64 (f51 0)) 65 (f52 0)) 66 (-1)) j)), ((r 14), .inl (cI, 2, .inl f14)), ((r 15), .inl (cI, 20, .inl f15)), ((r 16), .inl (cI, 20, .inl f16)), ((r 19), .inl (cI, 24, .inl f19)), ((r 20), .inl (cI, 24, .inl f20)), ((r 28), .inl (cI, 2, .inl f28)), ((r 29), .inl (cI, 2, .inl f29)), ((r 32), .inl (cI, 3200, .inl f32)), ((r 33), .inl (cI, 3200, .inl f33)), ((r 61), .inl (cJ, 500, .inr (.inl (u_141.2.2.2.1 0))))] H := hP
    have hD : va_D A [((r 18), .inl (cI, 2, .inl f18)), ((r 26), .inl (cI, 2, .inl f26)), ((r 27), .inl (cI, 2, .inl f27)), ((r 30), .inl (cI, 2, .inl f30)), ((r 31), .inl (cI, 2, .inl f31)), ((r 53), .inl (cI, 22, .inl f53)), ((r 49), .inl (cI, 22, .inl f49)), ((r 50), .inl (cI, 22, .inl f50)), ((r 51), .inl (cI, 22, .inl f51)), ((r 52), .inl (cI, 22, .inl f52)), (h, .inr (7, oM r (upd (upd (upd (upd (upd i 62 (f49 0)) 63 (f50 0)) 64 (f51 0)) 65 (f52 0)) 66 (-1)) j)), ((r 14), .inl (cI, 2, .inl f14)), ((r 15), .inl (cI, 20, .inl f15)), ((r 16), .inl (cI, 20, .inl f16)), ((r 19), .inl (cI, 24, .inl f19)), ((r 20), .inl (cI, 24, .inl f20)), ((r 28), .inl (cI, 2, .inl f28)), ((r 29), .inl (cI, 2, .inl f29)), ((r 32), .inl (cI, 3200, .inl f32)), ((r 33), .inl (cI, 3200, .inl f33)), ((r 61), .inl (cJ, 500, .inr (.inl (u_141.2.2.2.1 0))))] := hD
    have g_141_1 : r_141 = ctf f28 f29 f32 f33 (envf f14 f15 f16 f19 f20 (i 13) (f49 0) (f50 0) (f51 0) (f52 0) (-1)) (i 13).toNatClampNeg := g_141_1
    refine lv_if_eq (tgt := 151) hx hb dX7_has_144 (by decide) (fun c_144 => ?_) (fun c_144 => ?_)
    · have c_144 : r_141 = 0 := c_144
      have f_151_2 : iR r_141 0 0 := iR_eqL c_144 g_141_0 (iR_c (n := 0) (a := 0) (b := 0) (by decide +kernel) (by decide +kernel)) (by decide +kernel)
      refine lv_iconst (v := 0) hx hb dX7_has_151 (by decide +kernel) ?_
      exact k_ri B hP hD hS dX7_has_152 ((fun k9 => match k9 with | 0 => -1 | _ => 0), (fun _ => 0), (fun _ => (fun _ => 0)), (fun k9 => match k9 with | 0 => (u_141.2.2.2.1 0) | _ => (fun _ => 0)), (fun _ => 0)) [10, 11, 12, 13, 0, 14, 15, 1, 2, 16, 17, 3, 4, 18, 19, 6, 7, 8, 9, 5, 20] rfl rfl rfl (Nat.le_of_ble_eq_true rfl) (Nat.le_of_ble_eq_true rfl) (show iR (-1) (-1) 11 from (iR_c (n := (-1)) (a := (-1)) (b := 11) (by decide +kernel) (by decide +kernel)))
    · have c_144 : ¬ r_141 = 0 := c_144
      have f_147_2 : iR r_141 1 1 := iR_neL c_144 g_141_0 (iR_c (n := 0) (a := 0) (b := 0) (by decide +kernel) (by decide +kernel)) (by decide +kernel)
      refine lv_iconst (v := 1) hx hb dX7_has_147 (by decide +kernel) ?_
      refine lv_goto (tgt := 152) hx hb dX7_has_148 (by decide) ?_
      exact k_ri B hP hD hS dX7_has_152 ((fun k9 => match k9 with | 0 => -1 | _ => 0), (fun _ => 0), (fun _ => (fun _ => 0)), (fun k9 => match k9 with | 0 => (u_141.2.2.2.1 0) | _ => (fun _ => 0)), (fun _ => 0)) [10, 11, 12, 13, 0, 14, 15, 1, 2, 16, 17, 3, 4, 18, 19, 6, 7, 8, 9, 5, 20] rfl rfl rfl (Nat.le_of_ble_eq_true rfl) (Nat.le_of_ble_eq_true rfl) (show iR (-1) (-1) 11 from (iR_c (n := (-1)) (a := (-1)) (b := 11) (by decide +kernel) (by decide +kernel)))
  · have f_153_1 : iR x1 9 9 := iR_c c_6 (by decide +kernel)
    refine lv_tableIn (off := 147) (tgt := 153) hx hb dX7_has_6 (by rw [c_6]; decide) (by rw [c_6]; decide) (by rw [c_6]; decide +kernel) (by decide +kernel) ?_
    refine lv_aload_n hx hb dX7_has_153 rfl (lv_at hl 0 rfl) ?_
    refine k_get (D := (dC, dI)) (ci := 7) (v := .ref (r 30)) (C := RX7) (T := TX7) (N := 92) hx hb hts hinX7 hown hK hP 16 rfl rfl 30 (by decide) w_7 rfl rfl dX7_has_154 ?_
    refine lv_aload_n hx hb dX7_has_157 rfl (lv_at hl 0 rfl) ?_
    have f_158_2 : iR (i 13) 0 1 := hI 13
    refine k_get (D := (dC, dI)) (ci := 7) (v := .int (i 13)) (C := RX7) (T := TX7) (N := 92) hx hb hts hinX7 hown hK hP 16 rfl rfl 13 (by decide) w_1 rfl rfl dX7_has_158 ?_
    refine va_iald hx hb hK hP 10 0 rfl rfl (iR_vp f_158_2 (by decide +kernel)) dX7_has_161 ?_
    have f_161_3 : iR (f30 (i 13).toNatClampNeg) 0 999 := hf30 _
    exact k_ri B hP hD hS dX7_has_162 ((fun k9 => match k9 with | 0 => (i 66) | _ => 0), (fun _ => 0), (fun _ => (fun _ => 0)), (fun k9 => match k9 with | 0 => g61 | _ => (fun _ => 0)), (fun _ => 0)) [16, 0, 1, 2, 3, 4, 5, 6, 7, 8, 9, 10, 11, 12, 13, 17, 18, 19, 20, 14, 15] rfl rfl rfl (Nat.le_of_ble_eq_true rfl) (Nat.le_of_ble_eq_true rfl) (show iR (i 66) (-1) 11 from (hI 66))
  · have f_163_1 : iR x1 10 10 := iR_c c_6 (by decide +kernel)
    refine lv_tableIn (off := 157) (tgt := 163) hx hb dX7_has_6 (by rw [c_6]; decide) (by rw [c_6]; decide) (by rw [c_6]; decide +kernel) (by decide +kernel) ?_
    refine lv_aload_n hx hb dX7_has_163 rfl (lv_at hl 0 rfl) ?_
    refine k_get (D := (dC, dI)) (ci := 7) (v := .ref (r 31)) (C := RX7) (T := TX7) (N := 92) hx hb hts hinX7 hown hK hP 16 rfl rfl 31 (by decide) w_8 rfl rfl dX7_has_164 ?_
    refine lv_aload_n hx hb dX7_has_167 rfl (lv_at hl 0 rfl) ?_
    have f_168_2 : iR (i 13) 0 1 := hI 13
    refine k_get (D := (dC, dI)) (ci := 7) (v := .int (i 13)) (C := RX7) (T := TX7) (N := 92) hx hb hts hinX7 hown hK hP 16 rfl rfl 13 (by decide) w_1 rfl rfl dX7_has_168 ?_
    refine va_iald hx hb hK hP 11 0 rfl rfl (iR_vp f_168_2 (by decide +kernel)) dX7_has_171 ?_
    have f_171_3 : iR (f31 (i 13).toNatClampNeg) 0 999 := hf31 _
    exact k_ri B hP hD hS dX7_has_172 ((fun k9 => match k9 with | 0 => (i 66) | _ => 0), (fun _ => 0), (fun _ => (fun _ => 0)), (fun k9 => match k9 with | 0 => g61 | _ => (fun _ => 0)), (fun _ => 0)) [16, 0, 1, 2, 3, 4, 5, 6, 7, 8, 9, 10, 11, 12, 13, 17, 18, 19, 20, 14, 15] rfl rfl rfl (Nat.le_of_ble_eq_true rfl) (Nat.le_of_ble_eq_true rfl) (show iR (i 66) (-1) 11 from (hI 66))
  · have f_173_1 : iR x1 11 11 := iR_c c_6 (by decide +kernel)
    refine lv_tableIn (off := 167) (tgt := 173) hx hb dX7_has_6 (by rw [c_6]; decide) (by rw [c_6]; decide) (by rw [c_6]; decide +kernel) (by decide +kernel) ?_
    refine lv_aload_n hx hb dX7_has_173 rfl (lv_at hl 0 rfl) ?_
    refine k_get (D := (dC, dI)) (ci := 7) (v := .ref (r 53)) (C := RX7) (T := TX7) (N := 92) hx hb hts hinX7 hown hK hP 16 rfl rfl 53 (by decide) w_9 rfl rfl dX7_has_174 ?_
    refine lv_iconst (v := 0) hx hb dX7_has_177 (by decide +kernel) ?_
    refine k_iald (v := (f53 0)) hx hb hK hP 14 0 0 rfl rfl rfl (Nat.le_of_ble_eq_true rfl) (Nat.le_of_ble_eq_true rfl) rfl dX7_has_178 ?_
    have f_178_2 : iR (f53 0) 0 50 := hf53 _
    exact k_ri B hP hD hS dX7_has_179 ((fun k9 => match k9 with | 0 => (i 66) | _ => 0), (fun _ => 0), (fun _ => (fun _ => 0)), (fun k9 => match k9 with | 0 => g61 | _ => (fun _ => 0)), (fun _ => 0)) [16, 0, 1, 2, 3, 4, 5, 6, 7, 8, 9, 10, 11, 12, 13, 17, 18, 19, 20, 14, 15] rfl rfl rfl (Nat.le_of_ble_eq_true rfl) (Nat.le_of_ble_eq_true rfl) (show iR (i 66) (-1) 11 from (hI 66))
  · have f_180_1 : iR x1 12 12 := iR_c c_6 (by decide +kernel)
    refine lv_tableIn (off := 174) (tgt := 180) hx hb dX7_has_6 (by rw [c_6]; decide) (by rw [c_6]; decide) (by rw [c_6]; decide +kernel) (by decide +kernel) ?_
    refine lv_aload_n hx hb dX7_has_180 rfl (lv_at hl 0 rfl) ?_
    have f_181_2 : iR (i 59) 0 20 := hI 59
    refine k_get (D := (dC, dI)) (ci := 7) (v := .int (i 59)) (C := RX7) (T := TX7) (N := 92) hx hb hts hinX7 hown hK hP 16 rfl rfl 59 (by decide) w_10 rfl rfl dX7_has_181 ?_
    exact k_ri B hP hD hS dX7_has_184 ((fun k9 => match k9 with | 0 => (i 66) | _ => 0), (fun _ => 0), (fun _ => (fun _ => 0)), (fun k9 => match k9 with | 0 => g61 | _ => (fun _ => 0)), (fun _ => 0)) [16, 0, 1, 2, 3, 4, 5, 6, 7, 8, 9, 10, 11, 12, 13, 17, 18, 19, 20, 14, 15] rfl rfl rfl (Nat.le_of_ble_eq_true rfl) (Nat.le_of_ble_eq_true rfl) (show iR (i 66) (-1) 11 from (hI 66))
  · have f_185_1 : iR x1 13 13 := iR_c c_6 (by decide +kernel)
    refine lv_tableIn (off := 179) (tgt := 185) hx hb dX7_has_6 (by rw [c_6]; decide) (by rw [c_6]; decide) (by rw [c_6]; decide +kernel) (by decide +kernel) ?_
    refine lv_aload_n hx hb dX7_has_185 rfl (lv_at hl 0 rfl) ?_
    refine k_get (D := (dC, dI)) (ci := 7) (v := .long (j 60)) (C := RX7) (T := TX7) (N := 92) hx hb hts hinX7 hown hK hP 16 rfl rfl 60 (by decide) w_11 rfl rfl dX7_has_186 ?_
    refine lv_l2i (v := (j 60).toInt32) hx hb dX7_has_189 rfl ?_
    refine lv_topi (fun y_189 ey_189 => ?_)
    have f_189_2 : iR y_189 0 2147483647 := iR_l2i ey_189 hJ60 (by decide +kernel)
    exact k_ri B hP hD hS dX7_has_190 ((fun k9 => match k9 with | 0 => (i 66) | _ => 0), (fun _ => 0), (fun _ => (fun _ => 0)), (fun k9 => match k9 with | 0 => g61 | _ => (fun _ => 0)), (fun _ => 0)) [16, 0, 1, 2, 3, 4, 5, 6, 7, 8, 9, 10, 11, 12, 13, 17, 18, 19, 20, 14, 15] rfl rfl rfl (Nat.le_of_ble_eq_true rfl) (Nat.le_of_ble_eq_true rfl) (show iR (i 66) (-1) 11 from (hI 66))
  · refine lv_tableOut (tgt := 191) hx hb dX7_has_6 (by omega) (by decide +kernel) ?_
    refine lv_iconst (v := (-1)) hx hb dX7_has_191 (by decide +kernel) ?_
    exact k_ri B hP hD hS dX7_has_192 ((fun k9 => match k9 with | 0 => (i 66) | _ => 0), (fun _ => 0), (fun _ => (fun _ => 0)), (fun k9 => match k9 with | 0 => g61 | _ => (fun _ => 0)), (fun _ => 0)) [16, 0, 1, 2, 3, 4, 5, 6, 7, 8, 9, 10, 11, 12, 13, 17, 18, 19, 20, 14, 15] rfl rfl rfl (Nat.le_of_ble_eq_true rfl) (Nat.le_of_ble_eq_true rfl) (show iR (i 66) (-1) 11 from (hI 66))
set_option maxHeartbeats 8000000 in
set_option maxRecDepth 100000 in
theorem s_X7_letter_v0 (l : Launch) (dC : Nat → ClassId) (dI : Nat → Nat → Nat) (cI cJ cZ cM : ClassId) (h : Nat) (r : Nat → Nat) (i : Nat → Int32) (j : Nat → Int64) (x1 : Int32) (x2 : Int32) (x3 : Int32) (f14 : Nat → Int32) (f18 : Nat → Int32) (g34 : Nat → Int64) (g35 : Nat → Int64) (hI : mR i) (hf14 : aR f14 0 10) (hf18 : aR f18 0 12) : k_Mi l yX7_letter wsX7_letter ({ frames := 2, cells := 0, slots := 0, locals := 63 }) (dC, dI) vwCl (tyy cI cJ cZ cM) [(h, .inr (7, oM r i j)), ((r 14), .inl (cI, 2, .inl f14)), ((r 18), .inl (cI, 2, .inl f18)), ((r 34), .inl (cJ, 20, .inr (.inl g34))), ((r 35), .inl (cJ, 24, .inr (.inl g35)))] [.ref h, .int x1, .int x2, .int x3] 0 0 (fun (u9 : Unit) => [(h, .inr (7, oM r i j)), ((r 14), .inl (cI, 2, .inl f14)), ((r 18), .inl (cI, 2, .inl f18)), ((r 34), .inl (cJ, 20, .inr (.inl g34))), ((r 35), .inl (cJ, 24, .inr (.inl g35)))]) (fun (r9 : Int32) (u9 : Unit) => True) := by
  refine fun sz => k_enter (cc := cX7_letter) (maxL := 9) (ret := some (.int)) (Qc := fun A => va_Qi (fun (r9 : Int32) (u9 : Unit) => True) (fun u => k_B (dC, dI) vwCl (tyy cI cJ cZ cM) A ((fun (u9 : Unit) => [(h, .inr (7, oM r i j)), ((r 14), .inl (cI, 2, .inl f14)), ((r 18), .inl (cI, 2, .inl f18)), ((r 34), .inl (cJ, 20, .inr (.inl g34))), ((r 35), .inl (cJ, 24, .inr (.inl g35)))]) u)) A) sz (by decide +kernel) rfl (Nat.le_of_ble_eq_true rfl) (fun p e s m args below meth c A ls H locs B hP hD hS hl => ?_)
  obtain ⟨hx, hb, hml, hown, hts, hr, hlk, hnm, hK, hA, hN, hC⟩ := id B
  have hown : s.vm.findClass RX7 = some m.cls := hown
  have hl : lv_has ls 9 [(0, .ref h), (1, .int x1), (2, .int x2), (3, .int x3)] := hl
  have w_0 : (Cond.fieldLink RX7 51 "WishSeaModel" "bank" "I").before args s = true := hts _ (List.mem_of_getElem? (i := 1) rfl)
  have w_1 : (Cond.constantLong RX7 542 (255)).before args s = true := hts _ (List.mem_of_getElem? (i := 2) rfl)
  have hinX7 : ∀ w ∈ u_ws RX7 TX7 92, w ∈ wsX7_letter := fun _ h => List.mem_cons_of_mem _ (List.mem_append_right _ h)
  refine lv_iload_n hx hb dX7_letter_0 rfl (lv_at hl 1 rfl) ?_
  refine lv_iconst (v := 0) hx hb dX7_letter_1 (by decide +kernel) ?_
  refine lv_iconst (v := 1) hx hb dX7_letter_2 (by decide +kernel) ?_
  refine k_ci (wc := []) (wr := [(h, .inr (7, oM r i j)), ((r 14), .inl (cI, 2, .inl f14)), ((r 18), .inl (cI, 2, .inl f18)), ((r 34), .inl (cJ, 20, .inr (.inl g34))), ((r 35), .inl (cJ, 24, .inr (.inl g35)))]) (fun hPc hDc hFc => va_runS (As := [.int x1, .int 0, .int 1]) (rest := []) ⟨hx, hb, hml, hown, hts⟩ (s_X7_is_v0 l dC dI cI cJ cZ cM x1 0 1 H.size) (va_cwS 3 hts gX7_letter_X7_is rfl rfl rfl (by decide +kernel) ⟨(Nat.le_of_ble_eq_true rfl), (Nat.le_of_ble_eq_true rfl)⟩) (k_pS hPc hDc hK hN hC hS hFc) rfl rfl hl.1 rfl (lv_room (Nat.le_of_ble_eq_true rfl)) dX7_letter_3 ⟨(Nat.le_of_ble_eq_true rfl), (Nat.le_of_ble_eq_true rfl)⟩) hP hD hS hA [] [0, 1, 2, 3, 4] rfl rfl rfl rfl (by decide) (fun _ => rfl) 0 0 rfl rfl (fun r_3 u_3 H locs hw hP hD hS => ?_)
  obtain ⟨g_3_0, g_3_1⟩ := hw
  have hP : va_P (dC, dI) vwCl [(h, .inr (7, oM r i j)), ((r 14), .inl (cI, 2, .inl f14)), ((r 18), .inl (cI, 2, .inl f18)), ((r 34), .inl (cJ, 20, .inr (.inl g34))), ((r 35), .inl (cJ, 24, .inr (.inl g35)))] H := hP
  have hD : va_D A [(h, .inr (7, oM r i j)), ((r 14), .inl (cI, 2, .inl f14)), ((r 18), .inl (cI, 2, .inl f18)), ((r 34), .inl (cJ, 20, .inr (.inl g34))), ((r 35), .inl (cJ, 24, .inr (.inl g35)))] := hD
  have g_3_1 : (r_3 = 0) ∨ ((0 ≤ x1) ∧ (x1 ≤ 1)) := g_3_1
  have J_37 : ∀   (H : Heap) (locs : List Loc) (ls : Array Slot), va_P (dC, dI) vwCl [(h, .inr (7, oM r i j)), ((r 14), .inl (cI, 2, .inl f14)), ((r 18), .inl (cI, 2, .inl f18)), ((r 34), .inl (cJ, 20, .inr (.inl g34))), ((r 35), .inl (cJ, 24, .inr (.inl g35)))] H → va_D A [(h, .inr (7, oM r i j)), ((r 14), .inl (cI, 2, .inl f14)), ((r 18), .inl (cI, 2, .inl f18)), ((r 34), .inl (cJ, 20, .inr (.inl g34))), ((r 35), .inl (cJ, 24, .inr (.inl g35)))] → va_S A s.heap H locs → lv_has ls 9 [] → W p l e ({ frames := 2, cells := 0, slots := 0, locals := 63 }) s m args below meth c H locs 0 0 (MQ below (va_Qi (fun (r9 : Int32) (u9 : Unit) => True) (fun u => k_B (dC, dI) vwCl (tyy cI cJ cZ cM) A ((fun (u9 : Unit) => [(h, .inr (7, oM r i j)), ((r 14), .inl (cI, 2, .inl f14)), ((r 18), .inl (cI, 2, .inl f18)), ((r 34), .inl (cJ, 20, .inr (.inl g34))), ((r 35), .inl (cJ, 24, .inr (.inl g35)))]) u)) A) args s 0 0 A) (F0 m 37 ls []) := by
    intro   H locs ls hP hD hS hl
    refine lv_iconst (v := (-1)) hx hb dX7_letter_37 (by decide +kernel) ?_
    exact k_ri B hP hD hS dX7_letter_38 () [0, 1, 2, 3, 4] rfl rfl rfl (Nat.le_of_ble_eq_true rfl) (Nat.le_of_ble_eq_true rfl) trivial
  refine lv_if_eq (tgt := 37) hx hb dX7_letter_6 (by decide) (fun c_6 => ?_) (fun c_6 => ?_)
  · have c_6 : r_3 = 0 := c_6
    have f_37_1 : iR r_3 0 0 := iR_eqL c_6 g_3_0 (iR_c (n := 0) (a := 0) (b := 0) (by decide +kernel) (by decide +kernel)) (by decide +kernel)
    exact J_37   H locs ls hP hD hS (lv_sub hl [] rfl)
  · have c_6 : ¬ r_3 = 0 := c_6
    have f_9_1 : iR r_3 1 1 := iR_neL c_6 g_3_0 (iR_c (n := 0) (a := 0) (b := 0) (by decide +kernel) (by decide +kernel)) (by decide +kernel)
    obtain ⟨d_6_1_0, d_6_1_1⟩ := g_3_1.resolve_left c_6
    have f_9_2 : iR x1 0 2147483647 := iR_leR d_6_1_0 (iR_c (n := 0) (a := 0) (b := 0) (by decide +kernel) (by decide +kernel)) (iR_top _) (by decide +kernel)
    have f_9_3 : iR x1 0 1 := iR_leL d_6_1_1 f_9_2 (iR_c (n := 1) (a := 1) (b := 1) (by decide +kernel) (by decide +kernel)) (by decide +kernel)
    rcases (show x1.toInt = 0 ∨ x1.toInt = 1 by have q9 := f_9_3; unfold iR at q9; omega) with c_9 | c_9
    · obtain rfl : x1 = 0 := k_eqL (by decide +kernel) c_9
      refine lv_iload_n hx hb dX7_letter_9 rfl (lv_at hl 2 rfl) ?_
      refine lv_iconst (v := 0) hx hb dX7_letter_10 (by decide +kernel) ?_
      refine lv_aload_n hx hb dX7_letter_11 rfl (lv_at hl 0 rfl) ?_
      refine lv_aload_n hx hb dX7_letter_12 rfl (lv_at hl 0 rfl) ?_
      have f_13v0_4 : iR (i 13) 0 1 := hI 13
      refine k_get (D := (dC, dI)) (ci := 7) (v := .int (i 13)) (C := RX7) (T := TX7) (N := 92) hx hb hts hinX7 hown hK hP 0 rfl rfl 13 (by decide) w_0 rfl rfl dX7_letter_13 ?_
      refine lv_iload_n hx hb dX7_letter_16 rfl (lv_at hl 1 rfl) ?_
      refine k_ci (wc := [(h, .inr (7, oM r i j)), ((r 14), .inl (cI, 2, .inl f14))]) (wr := [((r 18), .inl (cI, 2, .inl f18)), ((r 34), .inl (cJ, 20, .inr (.inl g34))), ((r 35), .inl (cJ, 24, .inr (.inl g35)))]) (fun hPc hDc hFc => va_runV (As := [.int (i 13), .int 0]) (rest := [.int 0, .int x2]) ⟨hx, hb, hml, hown, hts⟩ (s_X7_manyOf_v0 l dC dI cI cJ cZ cM h r i j (i 13) f14 f_13v0_4 hI hf14 H.size) (cwV 2 hts gX7_letter_X7_manyOf rfl rfl rfl (by decide +kernel) ⟨(Nat.le_of_ble_eq_true rfl), (Nat.le_of_ble_eq_true rfl)⟩) (k_pV hPc hDc hK hN hC hS hFc hP (q0 := 0) (ci := 7) rfl rfl) rfl rfl hl.1 rfl (lv_room (Nat.le_of_ble_eq_true rfl)) dX7_letter_17 ⟨(Nat.le_of_ble_eq_true rfl), (Nat.le_of_ble_eq_true rfl)⟩) hP hD hS hA [0, 1] [2, 3, 4] rfl rfl rfl rfl (by decide) (fun _ => rfl) 0 0 rfl rfl (fun r_17v0 u_17v0 H locs hw hP hD hS => ?_)
      have g_17v0_0 := hw
      obtain rfl : r_17v0 = (f14 (i 13).toNatClampNeg) := g_17v0_0
      have hP : va_P (dC, dI) vwCl [((r 18), .inl (cI, 2, .inl f18)), ((r 34), .inl (cJ, 20, .inr (.inl g34))), ((r 35), .inl (cJ, 24, .inr (.inl g35))), (h, .inr (7, oM r i j)), ((r 14), .inl (cI, 2, .inl f14))] H := hP
      have hD : va_D A [((r 18), .inl (cI, 2, .inl f18)), ((r 34), .inl (cJ, 20, .inr (.inl g34))), ((r 35), .inl (cJ, 24, .inr (.inl g35))), (h, .inr (7, oM r i j)), ((r 14), .inl (cI, 2, .inl f14))] := hD
      refine lv_iconst (v := 1) hx hb dX7_letter_20 (by decide +kernel) ?_
      refine lv_isub hx hb dX7_letter_21 ?_
      refine lv_topi (fun y_21v0 ey_21v0 => ?_)
      have f_21v0_5 : iR y_21v0 (-1) 9 := iR_sub ey_21v0 (show iR (f14 (i 13).toNatClampNeg) 0 10 from hf14 _) (iR_c (n := 1) (a := 1) (b := 1) (by decide +kernel) (by decide +kernel)) (by decide +kernel)
      refine k_ci (wc := []) (wr := [((r 18), .inl (cI, 2, .inl f18)), ((r 34), .inl (cJ, 20, .inr (.inl g34))), ((r 35), .inl (cJ, 24, .inr (.inl g35))), (h, .inr (7, oM r i j)), ((r 14), .inl (cI, 2, .inl f14))]) (fun hPc hDc hFc => va_runS (As := [.int x2, .int 0, .int y_21v0]) (rest := []) ⟨hx, hb, hml, hown, hts⟩ (s_X7_is_v0 l dC dI cI cJ cZ cM x2 0 y_21v0 H.size) (va_cwS 3 hts gX7_letter_X7_is rfl rfl rfl (by decide +kernel) ⟨(Nat.le_of_ble_eq_true rfl), (Nat.le_of_ble_eq_true rfl)⟩) (k_pS hPc hDc hK hN hC hS hFc) rfl rfl hl.1 rfl (lv_room (Nat.le_of_ble_eq_true rfl)) dX7_letter_22 ⟨(Nat.le_of_ble_eq_true rfl), (Nat.le_of_ble_eq_true rfl)⟩) hP hD hS hA [] [0, 1, 2, 3, 4] rfl rfl rfl rfl (by decide) (fun _ => rfl) 0 0 rfl rfl (fun r_22v0 u_22v0 H locs hw hP hD hS => ?_)
      obtain ⟨g_22v0_0, g_22v0_1⟩ := hw
      have hP : va_P (dC, dI) vwCl [((r 18), .inl (cI, 2, .inl f18)), ((r 34), .inl (cJ, 20, .inr (.inl g34))), ((r 35), .inl (cJ, 24, .inr (.inl g35))), (h, .inr (7, oM r i j)), ((r 14), .inl (cI, 2, .inl f14))] H := hP
      have hD : va_D A [((r 18), .inl (cI, 2, .inl f18)), ((r 34), .inl (cJ, 20, .inr (.inl g34))), ((r 35), .inl (cJ, 24, .inr (.inl g35))), (h, .inr (7, oM r i j)), ((r 14), .inl (cI, 2, .inl f14))] := hD
      have g_22v0_1 : (r_22v0 = 0) ∨ ((0 ≤ x2) ∧ (x2 ≤ y_21v0)) := g_22v0_1
      refine lv_if_eq (tgt := 37) hx hb dX7_letter_25 (by decide) (fun c_25v0 => ?_) (fun c_25v0 => ?_)
      · have c_25v0 : r_22v0 = 0 := c_25v0
        have f_37v0_6 : iR r_22v0 0 0 := iR_eqL c_25v0 g_22v0_0 (iR_c (n := 0) (a := 0) (b := 0) (by decide +kernel) (by decide +kernel)) (by decide +kernel)
        exact J_37   H locs ls (hP.sub [3, 4, 0, 1, 2] rfl) (hD.sub [3, 4, 0, 1, 2] (by decide +kernel) rfl) hS (lv_sub hl [] rfl)
      · have c_25v0 : ¬ r_22v0 = 0 := c_25v0
        have f_28v0_6 : iR r_22v0 1 1 := iR_neL c_25v0 g_22v0_0 (iR_c (n := 0) (a := 0) (b := 0) (by decide +kernel) (by decide +kernel)) (by decide +kernel)
        obtain ⟨d_25v0_2_0, d_25v0_2_1⟩ := g_22v0_1.resolve_left c_25v0
        have f_28v0_7 : iR x2 0 2147483647 := iR_leR d_25v0_2_0 (iR_c (n := 0) (a := 0) (b := 0) (by decide +kernel) (by decide +kernel)) (iR_top _) (by decide +kernel)
        have f_28v0_8 : iR x2 0 9 := iR_leL d_25v0_2_1 f_28v0_7 f_21v0_5 (by decide +kernel)
        have f_28v0_9 : iR y_21v0 0 9 := iR_leR d_25v0_2_1 f_28v0_7 f_21v0_5 (by decide +kernel)
        refine lv_iload_n hx hb dX7_letter_28 rfl (lv_at hl 3 rfl) ?_
        refine lv_iconst (v := 0) hx hb dX7_letter_29 (by decide +kernel) ?_
        refine lv_iconst (v := 5) hx hb dX7_letter_30 (by decide +kernel) ?_
        refine k_ci (wc := []) (wr := [((r 18), .inl (cI, 2, .inl f18)), ((r 34), .inl (cJ, 20, .inr (.inl g34))), ((r 35), .inl (cJ, 24, .inr (.inl g35))), (h, .inr (7, oM r i j)), ((r 14), .inl (cI, 2, .inl f14))]) (fun hPc hDc hFc => va_runS (As := [.int x3, .int 0, .int 5]) (rest := []) ⟨hx, hb, hml, hown, hts⟩ (s_X7_is_v0 l dC dI cI cJ cZ cM x3 0 5 H.size) (va_cwS 3 hts gX7_letter_X7_is rfl rfl rfl (by decide +kernel) ⟨(Nat.le_of_ble_eq_true rfl), (Nat.le_of_ble_eq_true rfl)⟩) (k_pS hPc hDc hK hN hC hS hFc) rfl rfl hl.1 rfl (lv_room (Nat.le_of_ble_eq_true rfl)) dX7_letter_31 ⟨(Nat.le_of_ble_eq_true rfl), (Nat.le_of_ble_eq_true rfl)⟩) hP hD hS hA [] [0, 1, 2, 3, 4] rfl rfl rfl rfl (by decide) (fun _ => rfl) 0 0 rfl rfl (fun r_31v0 u_31v0 H locs hw hP hD hS => ?_)
        obtain ⟨g_31v0_0, g_31v0_1⟩ := hw
        have hP : va_P (dC, dI) vwCl [((r 18), .inl (cI, 2, .inl f18)), ((r 34), .inl (cJ, 20, .inr (.inl g34))), ((r 35), .inl (cJ, 24, .inr (.inl g35))), (h, .inr (7, oM r i j)), ((r 14), .inl (cI, 2, .inl f14))] H := hP
        have hD : va_D A [((r 18), .inl (cI, 2, .inl f18)), ((r 34), .inl (cJ, 20, .inr (.inl g34))), ((r 35), .inl (cJ, 24, .inr (.inl g35))), (h, .inr (7, oM r i j)), ((r 14), .inl (cI, 2, .inl f14))] := hD
        have g_31v0_1 : (r_31v0 = 0) ∨ ((0 ≤ x3) ∧ (x3 ≤ 5)) := g_31v0_1
        refine lv_if_ne (tgt := 39) hx hb dX7_letter_34 (by decide) (fun c_34v0 => ?_) (fun c_34v0 => ?_)
        · have c_34v0 : ¬ r_31v0 = 0 := c_34v0
          have f_39v0_10 : iR r_31v0 1 1 := iR_neL c_34v0 g_31v0_0 (iR_c (n := 0) (a := 0) (b := 0) (by decide +kernel) (by decide +kernel)) (by decide +kernel)
          obtain ⟨d_34v0_3_0, d_34v0_3_1⟩ := g_31v0_1.resolve_left c_34v0
          have f_39v0_11 : iR x3 0 2147483647 := iR_leR d_34v0_3_0 (iR_c (n := 0) (a := 0) (b := 0) (by decide +kernel) (by decide +kernel)) (iR_top _) (by decide +kernel)
          have f_39v0_12 : iR x3 0 5 := iR_leL d_34v0_3_1 f_39v0_11 (iR_c (n := 5) (a := 5) (b := 5) (by decide +kernel) (by decide +kernel)) (by decide +kernel)
          refine lv_aload_n hx hb dX7_letter_39 rfl (lv_at hl 0 rfl) ?_
          refine lv_aload_n hx hb dX7_letter_40 rfl (lv_at hl 0 rfl) ?_
          refine k_get (D := (dC, dI)) (ci := 7) (v := .int (i 13)) (C := RX7) (T := TX7) (N := 92) hx hb hts hinX7 hown hK hP 3 rfl rfl 13 (by decide) w_0 rfl rfl dX7_letter_41 ?_
          refine lv_iload_n hx hb dX7_letter_44 rfl (lv_at hl 1 rfl) ?_
          refine lv_iload_n hx hb dX7_letter_45 rfl (lv_at hl 2 rfl) ?_
          refine k_cl (wc := [(h, .inr (7, oM r i j)), ((r 34), .inl (cJ, 20, .inr (.inl g34)))]) (wr := [((r 18), .inl (cI, 2, .inl f18)), ((r 35), .inl (cJ, 24, .inr (.inl g35))), ((r 14), .inl (cI, 2, .inl f14))]) (fun hPc hDc hFc => va_runV (As := [.int (i 13), .int 0, .int x2]) (rest := []) ⟨hx, hb, hml, hown, hts⟩ (s_X7_nameOf_v0 l dC dI cI cJ cZ cM h r i j (i 13) x2 g34 f_13v0_4 f_28v0_8 hI H.size) (cwV 3 hts gX7_letter_X7_nameOf rfl rfl rfl (by decide +kernel) ⟨(Nat.le_of_ble_eq_true rfl), (Nat.le_of_ble_eq_true rfl)⟩) (k_pV hPc hDc hK hN hC hS hFc hP (q0 := 3) (ci := 7) rfl rfl) rfl rfl hl.1 rfl (lv_room (Nat.le_of_ble_eq_true rfl)) dX7_letter_46 ⟨(Nat.le_of_ble_eq_true rfl), (Nat.le_of_ble_eq_true rfl)⟩) hP hD hS hA [3, 1] [0, 2, 4] rfl rfl rfl rfl (by decide) (fun _ => rfl) 0 0 rfl rfl (fun r_46v0 u_46v0 H locs hw hP hD hS => ?_)
          have hP : va_P (dC, dI) vwCl [((r 18), .inl (cI, 2, .inl f18)), ((r 35), .inl (cJ, 24, .inr (.inl g35))), ((r 14), .inl (cI, 2, .inl f14)), (h, .inr (7, oM r i j)), ((r 34), .inl (cJ, 20, .inr (.inl g34)))] H := hP
          have hD : va_D A [((r 18), .inl (cI, 2, .inl f18)), ((r 35), .inl (cJ, 24, .inr (.inl g35))), ((r 14), .inl (cI, 2, .inl f14)), (h, .inr (7, oM r i j)), ((r 34), .inl (cJ, 20, .inr (.inl g34)))] := hD
          refine lv_lstore (lv' := [(4, .long r_46v0), (0, .ref h), (1, .int 0), (2, .int x2), (3, .int x3)]) hx hb dX7_letter_49 hl (by decide) rfl (fun ls hl => ?_)
          refine lv_iconst (v := 0) hx hb dX7_letter_51 (by decide +kernel) ?_
          refine lv_istore (lv' := [(6, .int 0), (4, .long r_46v0), (0, .ref h), (1, .int 0), (2, .int x2), (3, .int x3)]) hx hb dX7_letter_52 hl (by decide) rfl (fun ls hl => ?_)
          refine lv_lload hx hb dX7_letter_54 (lv_at hl 1 rfl) ?_
          have J_58v0 : ∀ (n_58v0 : Nat) (j58v0_L6 : Int32) (j58v0_L7 : Int64)  (hm_58v0 : j58v0_L7.toInt.toNat < n_58v0) (H : Heap) (locs : List Loc) (ls : Array Slot), va_P (dC, dI) vwCl [(h, .inr (7, oM r i j)), ((r 14), .inl (cI, 2, .inl f14)), ((r 18), .inl (cI, 2, .inl f18)), ((r 34), .inl (cJ, 20, .inr (.inl g34))), ((r 35), .inl (cJ, 24, .inr (.inl g35)))] H → va_D A [(h, .inr (7, oM r i j)), ((r 14), .inl (cI, 2, .inl f14)), ((r 18), .inl (cI, 2, .inl f18)), ((r 34), .inl (cJ, 20, .inr (.inl g34))), ((r 35), .inl (cJ, 24, .inr (.inl g35)))] → va_S A s.heap H locs → lv_has ls 9 [(3, .int x3), (4, .long r_46v0), (6, .int j58v0_L6), (7, .long j58v0_L7)] → W p l e ({ frames := 2, cells := 0, slots := 0, locals := 63 }) s m args below meth c H locs 0 0 (MQ below (va_Qi (fun (r9 : Int32) (u9 : Unit) => True) (fun u => k_B (dC, dI) vwCl (tyy cI cJ cZ cM) A ((fun (u9 : Unit) => [(h, .inr (7, oM r i j)), ((r 14), .inl (cI, 2, .inl f14)), ((r 18), .inl (cI, 2, .inl f18)), ((r 34), .inl (cJ, 20, .inr (.inl g34))), ((r 35), .inl (cJ, 24, .inr (.inl g35)))]) u)) A) args s 0 0 A) (F0 m 58 ls []) := by
            intro n_58v0
            induction n_58v0 with
            | zero => intro j58v0_L6 j58v0_L7  hm_58v0; exact absurd hm_58v0 (Nat.not_lt_zero _)
            | succ n_58v0 ih_58v0 =>
              intro j58v0_L6 j58v0_L7  hm_58v0 H locs ls hP hD hS hl
              refine lv_lload hx hb dX7_letter_58 (lv_at hl 3 rfl) ?_
              refine lv_lconst (v := 0) hx hb dX7_letter_60 (by decide +kernel) ?_
              refine W.lcmp hx hb dX7_letter_61 ?_
              refine lv_topi (fun y_61v0 ey_61v0 => ?_)
              refine lv_if_le (tgt := 78) hx hb dX7_letter_62 (by decide) (fun c_62v0 => ?_) (fun c_62v0 => ?_)
              · have c_62v0 : y_61v0 ≤ 0 := c_62v0
                have f_78v0_1 : iR y_61v0 (-2147483648) 0 := iR_leL c_62v0 (iR_top _) (iR_c (n := 0) (a := 0) (b := 0) (by decide +kernel) (by decide +kernel)) (by decide +kernel)
                have lc_62v0 : j58v0_L7 ≤ 0 := l_cmple ey_61v0 c_62v0
                refine lv_iload_n hx hb dX7_letter_78 rfl (lv_at hl 0 rfl) ?_
                refine lv_iload hx hb dX7_letter_79 (lv_at hl 2 rfl) ?_
                refine lv_icmp_lt (tgt := 88) hx hb dX7_letter_81 (by decide) (fun c_81v0 => ?_) (fun c_81v0 => ?_)
                · have c_81v0 : x3 < j58v0_L6 := c_81v0
                  have f_88v0_2 : iR j58v0_L6 1 2147483647 := iR_ltR c_81v0 f_39v0_12 (iR_top _) (by decide +kernel)
                  refine lv_lload hx hb dX7_letter_88 (lv_at hl 1 rfl) ?_
                  refine lv_bipush (v := 8) hx hb dX7_letter_90 (by decide +kernel) ?_
                  refine lv_iload hx hb dX7_letter_92 (lv_at hl 2 rfl) ?_
                  refine lv_iconst (v := 1) hx hb dX7_letter_94 (by decide +kernel) ?_
                  refine lv_isub hx hb dX7_letter_95 ?_
                  refine lv_topi (fun y_95v0 ey_95v0 => ?_)
                  have f_95v0_3 : iR y_95v0 0 2147483646 := iR_sub ey_95v0 f_88v0_2 (iR_c (n := 1) (a := 1) (b := 1) (by decide +kernel) (by decide +kernel)) (by decide +kernel)
                  refine lv_iload_n hx hb dX7_letter_96 rfl (lv_at hl 0 rfl) ?_
                  refine lv_isub hx hb dX7_letter_97 ?_
                  refine lv_topi (fun y_97v0 ey_97v0 => ?_)
                  have f_97v0_4 : iR y_97v0 (-5) 2147483646 := iR_sub ey_97v0 f_95v0_3 f_39v0_12 (by decide +kernel)
                  refine lv_imul hx hb dX7_letter_98 ?_
                  refine lv_topi (fun y_98v0 ey_98v0 => ?_)
                  refine lv_lshr (v := r_46v0 >>> (y_98v0.toInt64 &&& 63)) hx hb dX7_letter_99 rfl ?_
                  refine lv_topl (fun y_99v0 ey_99v0 => ?_)
                  refine lv_ldc2 (v := 255) hx hb hown w_1 dX7_letter_100 ?_
                  refine lv_land hx hb dX7_letter_103 ?_
                  refine lv_topl (fun y_103v0 ey_103v0 => ?_)
                  refine lv_l2i (v := y_103v0.toInt32) hx hb dX7_letter_104 rfl ?_
                  refine lv_topi (fun y_104v0 ey_104v0 => ?_)
                  refine lv_bipush (v := 97) hx hb dX7_letter_105 (by decide +kernel) ?_
                  refine lv_isub hx hb dX7_letter_107 ?_
                  refine lv_topi (fun y_107v0 ey_107v0 => ?_)
                  refine lv_iconst (v := 1) hx hb dX7_letter_108 (by decide +kernel) ?_
                  refine lv_iadd hx hb dX7_letter_109 ?_
                  refine lv_topi (fun y_109v0 ey_109v0 => ?_)
                  exact k_ri B hP hD hS dX7_letter_110 () [0, 1, 2, 3, 4] rfl rfl rfl (Nat.le_of_ble_eq_true rfl) (Nat.le_of_ble_eq_true rfl) trivial
                · have c_81v0 : j58v0_L6 ≤ x3 := i_nlt c_81v0
                  have f_84v0_2 : iR j58v0_L6 (-2147483648) 5 := iR_leL c_81v0 (iR_top _) f_39v0_12 (by decide +kernel)
                  refine lv_iconst (v := 0) hx hb dX7_letter_84 (by decide +kernel) ?_
                  refine lv_goto (tgt := 110) hx hb dX7_letter_85 (by decide) ?_
                  exact k_ri B hP hD hS dX7_letter_110 () [0, 1, 2, 3, 4] rfl rfl rfl (Nat.le_of_ble_eq_true rfl) (Nat.le_of_ble_eq_true rfl) trivial
              · have c_62v0 : 0 < y_61v0 := i_nle c_62v0
                have f_65v0_1 : iR y_61v0 1 2147483647 := iR_ltR c_62v0 (iR_c (n := 0) (a := 0) (b := 0) (by decide +kernel) (by decide +kernel)) (iR_top _) (by decide +kernel)
                have lc_62v0 : 0 < j58v0_L7 := l_cmpgt ey_61v0 c_62v0
                obtain ⟨y_65v0, ey_65v0⟩ : ∃ y : Int32, y = j58v0_L6 + 1 := ⟨_, rfl⟩
                refine lv_iinc (v := y_65v0) (lv' := [(6, .int y_65v0), (3, .int x3), (4, .long r_46v0), (7, .long j58v0_L7)]) hx hb dX7_letter_65 hl (k := 2) rfl ey_65v0.symm (by decide) rfl (fun ls hl => ?_)
                refine lv_lload hx hb dX7_letter_68 (lv_at hl 3 rfl) ?_
                refine lv_bipush (v := 8) hx hb dX7_letter_70 (by decide +kernel) ?_
                refine lv_lshr (v := j58v0_L7 >>> ((8 : Int32).toInt64 &&& 63)) hx hb dX7_letter_72 rfl ?_
                refine lv_topl (fun y_72v0 ey_72v0 => ?_)
                refine lv_lstore (lv' := [(7, .long y_72v0), (6, .int y_65v0), (3, .int x3), (4, .long r_46v0)]) hx hb dX7_letter_73 hl (by decide) rfl (fun ls hl => ?_)
                refine lv_goto (tgt := 58) hx hb dX7_letter_75 (by decide) ?_
                exact ih_58v0 y_65v0 y_72v0  (m_shr8 hm_58v0 ey_72v0 lc_62v0) H locs ls hP hD hS (lv_sub hl [2, 3, 1, 0] rfl)
          refine lv_lstore (lv' := [(7, .long r_46v0), (6, .int 0), (4, .long r_46v0), (0, .ref h), (1, .int 0), (2, .int x2), (3, .int x3)]) hx hb dX7_letter_56 hl (by decide) rfl (fun ls hl => ?_)
          exact J_58v0 _ 0 r_46v0  (Nat.lt_succ_self _) H locs ls (hP.sub [3, 2, 0, 4, 1] rfl) (hD.sub [3, 2, 0, 4, 1] (by decide +kernel) rfl) hS (lv_sub hl [6, 2, 1, 0] rfl)
        · have c_34v0 : r_31v0 = 0 := c_34v0
          have f_37v0_10 : iR r_31v0 0 0 := iR_eqL c_34v0 g_31v0_0 (iR_c (n := 0) (a := 0) (b := 0) (by decide +kernel) (by decide +kernel)) (by decide +kernel)
          exact J_37   H locs ls (hP.sub [3, 4, 0, 1, 2] rfl) (hD.sub [3, 4, 0, 1, 2] (by decide +kernel) rfl) hS (lv_sub hl [] rfl)
    · obtain rfl : x1 = 1 := k_eqL (by decide +kernel) c_9
      refine lv_iload_n hx hb dX7_letter_9 rfl (lv_at hl 2 rfl) ?_
      refine lv_iconst (v := 0) hx hb dX7_letter_10 (by decide +kernel) ?_
      refine lv_aload_n hx hb dX7_letter_11 rfl (lv_at hl 0 rfl) ?_
      refine lv_aload_n hx hb dX7_letter_12 rfl (lv_at hl 0 rfl) ?_
      have f_13v1_4 : iR (i 13) 0 1 := hI 13
      refine k_get (D := (dC, dI)) (ci := 7) (v := .int (i 13)) (C := RX7) (T := TX7) (N := 92) hx hb hts hinX7 hown hK hP 0 rfl rfl 13 (by decide) w_0 rfl rfl dX7_letter_13 ?_
      refine lv_iload_n hx hb dX7_letter_16 rfl (lv_at hl 1 rfl) ?_
      refine k_ci (wc := [(h, .inr (7, oM r i j)), ((r 18), .inl (cI, 2, .inl f18))]) (wr := [((r 14), .inl (cI, 2, .inl f14)), ((r 34), .inl (cJ, 20, .inr (.inl g34))), ((r 35), .inl (cJ, 24, .inr (.inl g35)))]) (fun hPc hDc hFc => va_runV (As := [.int (i 13), .int 1]) (rest := [.int 0, .int x2]) ⟨hx, hb, hml, hown, hts⟩ (s_X7_manyOf_v1 l dC dI cI cJ cZ cM h r i j (i 13) f18 f_13v1_4 hI hf18 H.size) (cwV 2 hts gX7_letter_X7_manyOf rfl rfl rfl (by decide +kernel) ⟨(Nat.le_of_ble_eq_true rfl), (Nat.le_of_ble_eq_true rfl)⟩) (k_pV hPc hDc hK hN hC hS hFc hP (q0 := 0) (ci := 7) rfl rfl) rfl rfl hl.1 rfl (lv_room (Nat.le_of_ble_eq_true rfl)) dX7_letter_17 ⟨(Nat.le_of_ble_eq_true rfl), (Nat.le_of_ble_eq_true rfl)⟩) hP hD hS hA [0, 2] [1, 3, 4] rfl rfl rfl rfl (by decide) (fun _ => rfl) 0 0 rfl rfl (fun r_17v1 u_17v1 H locs hw hP hD hS => ?_)
      have g_17v1_0 := hw
      obtain rfl : r_17v1 = (f18 (i 13).toNatClampNeg) := g_17v1_0
      have hP : va_P (dC, dI) vwCl [((r 14), .inl (cI, 2, .inl f14)), ((r 34), .inl (cJ, 20, .inr (.inl g34))), ((r 35), .inl (cJ, 24, .inr (.inl g35))), (h, .inr (7, oM r i j)), ((r 18), .inl (cI, 2, .inl f18))] H := hP
      have hD : va_D A [((r 14), .inl (cI, 2, .inl f14)), ((r 34), .inl (cJ, 20, .inr (.inl g34))), ((r 35), .inl (cJ, 24, .inr (.inl g35))), (h, .inr (7, oM r i j)), ((r 18), .inl (cI, 2, .inl f18))] := hD
      refine lv_iconst (v := 1) hx hb dX7_letter_20 (by decide +kernel) ?_
      refine lv_isub hx hb dX7_letter_21 ?_
      refine lv_topi (fun y_21v1 ey_21v1 => ?_)
      have f_21v1_5 : iR y_21v1 (-1) 11 := iR_sub ey_21v1 (show iR (f18 (i 13).toNatClampNeg) 0 12 from hf18 _) (iR_c (n := 1) (a := 1) (b := 1) (by decide +kernel) (by decide +kernel)) (by decide +kernel)
      refine k_ci (wc := []) (wr := [((r 14), .inl (cI, 2, .inl f14)), ((r 34), .inl (cJ, 20, .inr (.inl g34))), ((r 35), .inl (cJ, 24, .inr (.inl g35))), (h, .inr (7, oM r i j)), ((r 18), .inl (cI, 2, .inl f18))]) (fun hPc hDc hFc => va_runS (As := [.int x2, .int 0, .int y_21v1]) (rest := []) ⟨hx, hb, hml, hown, hts⟩ (s_X7_is_v0 l dC dI cI cJ cZ cM x2 0 y_21v1 H.size) (va_cwS 3 hts gX7_letter_X7_is rfl rfl rfl (by decide +kernel) ⟨(Nat.le_of_ble_eq_true rfl), (Nat.le_of_ble_eq_true rfl)⟩) (k_pS hPc hDc hK hN hC hS hFc) rfl rfl hl.1 rfl (lv_room (Nat.le_of_ble_eq_true rfl)) dX7_letter_22 ⟨(Nat.le_of_ble_eq_true rfl), (Nat.le_of_ble_eq_true rfl)⟩) hP hD hS hA [] [0, 1, 2, 3, 4] rfl rfl rfl rfl (by decide) (fun _ => rfl) 0 0 rfl rfl (fun r_22v1 u_22v1 H locs hw hP hD hS => ?_)
      obtain ⟨g_22v1_0, g_22v1_1⟩ := hw
      have hP : va_P (dC, dI) vwCl [((r 14), .inl (cI, 2, .inl f14)), ((r 34), .inl (cJ, 20, .inr (.inl g34))), ((r 35), .inl (cJ, 24, .inr (.inl g35))), (h, .inr (7, oM r i j)), ((r 18), .inl (cI, 2, .inl f18))] H := hP
      have hD : va_D A [((r 14), .inl (cI, 2, .inl f14)), ((r 34), .inl (cJ, 20, .inr (.inl g34))), ((r 35), .inl (cJ, 24, .inr (.inl g35))), (h, .inr (7, oM r i j)), ((r 18), .inl (cI, 2, .inl f18))] := hD
      have g_22v1_1 : (r_22v1 = 0) ∨ ((0 ≤ x2) ∧ (x2 ≤ y_21v1)) := g_22v1_1
      refine lv_if_eq (tgt := 37) hx hb dX7_letter_25 (by decide) (fun c_25v1 => ?_) (fun c_25v1 => ?_)
      · have c_25v1 : r_22v1 = 0 := c_25v1
        have f_37v1_6 : iR r_22v1 0 0 := iR_eqL c_25v1 g_22v1_0 (iR_c (n := 0) (a := 0) (b := 0) (by decide +kernel) (by decide +kernel)) (by decide +kernel)
        exact J_37   H locs ls (hP.sub [3, 0, 4, 1, 2] rfl) (hD.sub [3, 0, 4, 1, 2] (by decide +kernel) rfl) hS (lv_sub hl [] rfl)
      · have c_25v1 : ¬ r_22v1 = 0 := c_25v1
        have f_28v1_6 : iR r_22v1 1 1 := iR_neL c_25v1 g_22v1_0 (iR_c (n := 0) (a := 0) (b := 0) (by decide +kernel) (by decide +kernel)) (by decide +kernel)
        obtain ⟨d_25v1_2_0, d_25v1_2_1⟩ := g_22v1_1.resolve_left c_25v1
        have f_28v1_7 : iR x2 0 2147483647 := iR_leR d_25v1_2_0 (iR_c (n := 0) (a := 0) (b := 0) (by decide +kernel) (by decide +kernel)) (iR_top _) (by decide +kernel)
        have f_28v1_8 : iR x2 0 11 := iR_leL d_25v1_2_1 f_28v1_7 f_21v1_5 (by decide +kernel)
        have f_28v1_9 : iR y_21v1 0 11 := iR_leR d_25v1_2_1 f_28v1_7 f_21v1_5 (by decide +kernel)
        refine lv_iload_n hx hb dX7_letter_28 rfl (lv_at hl 3 rfl) ?_
        refine lv_iconst (v := 0) hx hb dX7_letter_29 (by decide +kernel) ?_
        refine lv_iconst (v := 5) hx hb dX7_letter_30 (by decide +kernel) ?_
        refine k_ci (wc := []) (wr := [((r 14), .inl (cI, 2, .inl f14)), ((r 34), .inl (cJ, 20, .inr (.inl g34))), ((r 35), .inl (cJ, 24, .inr (.inl g35))), (h, .inr (7, oM r i j)), ((r 18), .inl (cI, 2, .inl f18))]) (fun hPc hDc hFc => va_runS (As := [.int x3, .int 0, .int 5]) (rest := []) ⟨hx, hb, hml, hown, hts⟩ (s_X7_is_v0 l dC dI cI cJ cZ cM x3 0 5 H.size) (va_cwS 3 hts gX7_letter_X7_is rfl rfl rfl (by decide +kernel) ⟨(Nat.le_of_ble_eq_true rfl), (Nat.le_of_ble_eq_true rfl)⟩) (k_pS hPc hDc hK hN hC hS hFc) rfl rfl hl.1 rfl (lv_room (Nat.le_of_ble_eq_true rfl)) dX7_letter_31 ⟨(Nat.le_of_ble_eq_true rfl), (Nat.le_of_ble_eq_true rfl)⟩) hP hD hS hA [] [0, 1, 2, 3, 4] rfl rfl rfl rfl (by decide) (fun _ => rfl) 0 0 rfl rfl (fun r_31v1 u_31v1 H locs hw hP hD hS => ?_)
        obtain ⟨g_31v1_0, g_31v1_1⟩ := hw
        have hP : va_P (dC, dI) vwCl [((r 14), .inl (cI, 2, .inl f14)), ((r 34), .inl (cJ, 20, .inr (.inl g34))), ((r 35), .inl (cJ, 24, .inr (.inl g35))), (h, .inr (7, oM r i j)), ((r 18), .inl (cI, 2, .inl f18))] H := hP
        have hD : va_D A [((r 14), .inl (cI, 2, .inl f14)), ((r 34), .inl (cJ, 20, .inr (.inl g34))), ((r 35), .inl (cJ, 24, .inr (.inl g35))), (h, .inr (7, oM r i j)), ((r 18), .inl (cI, 2, .inl f18))] := hD
        have g_31v1_1 : (r_31v1 = 0) ∨ ((0 ≤ x3) ∧ (x3 ≤ 5)) := g_31v1_1
        refine lv_if_ne (tgt := 39) hx hb dX7_letter_34 (by decide) (fun c_34v1 => ?_) (fun c_34v1 => ?_)
        · have c_34v1 : ¬ r_31v1 = 0 := c_34v1
          have f_39v1_10 : iR r_31v1 1 1 := iR_neL c_34v1 g_31v1_0 (iR_c (n := 0) (a := 0) (b := 0) (by decide +kernel) (by decide +kernel)) (by decide +kernel)
          obtain ⟨d_34v1_3_0, d_34v1_3_1⟩ := g_31v1_1.resolve_left c_34v1
          have f_39v1_11 : iR x3 0 2147483647 := iR_leR d_34v1_3_0 (iR_c (n := 0) (a := 0) (b := 0) (by decide +kernel) (by decide +kernel)) (iR_top _) (by decide +kernel)
          have f_39v1_12 : iR x3 0 5 := iR_leL d_34v1_3_1 f_39v1_11 (iR_c (n := 5) (a := 5) (b := 5) (by decide +kernel) (by decide +kernel)) (by decide +kernel)
          refine lv_aload_n hx hb dX7_letter_39 rfl (lv_at hl 0 rfl) ?_
          refine lv_aload_n hx hb dX7_letter_40 rfl (lv_at hl 0 rfl) ?_
          refine k_get (D := (dC, dI)) (ci := 7) (v := .int (i 13)) (C := RX7) (T := TX7) (N := 92) hx hb hts hinX7 hown hK hP 3 rfl rfl 13 (by decide) w_0 rfl rfl dX7_letter_41 ?_
          refine lv_iload_n hx hb dX7_letter_44 rfl (lv_at hl 1 rfl) ?_
          refine lv_iload_n hx hb dX7_letter_45 rfl (lv_at hl 2 rfl) ?_
          refine k_cl (wc := [(h, .inr (7, oM r i j)), ((r 35), .inl (cJ, 24, .inr (.inl g35)))]) (wr := [((r 14), .inl (cI, 2, .inl f14)), ((r 34), .inl (cJ, 20, .inr (.inl g34))), ((r 18), .inl (cI, 2, .inl f18))]) (fun hPc hDc hFc => va_runV (As := [.int (i 13), .int 1, .int x2]) (rest := []) ⟨hx, hb, hml, hown, hts⟩ (s_X7_nameOf_v1 l dC dI cI cJ cZ cM h r i j (i 13) x2 g35 f_13v1_4 f_28v1_8 hI H.size) (cwV 3 hts gX7_letter_X7_nameOf rfl rfl rfl (by decide +kernel) ⟨(Nat.le_of_ble_eq_true rfl), (Nat.le_of_ble_eq_true rfl)⟩) (k_pV hPc hDc hK hN hC hS hFc hP (q0 := 3) (ci := 7) rfl rfl) rfl rfl hl.1 rfl (lv_room (Nat.le_of_ble_eq_true rfl)) dX7_letter_46 ⟨(Nat.le_of_ble_eq_true rfl), (Nat.le_of_ble_eq_true rfl)⟩) hP hD hS hA [3, 2] [0, 1, 4] rfl rfl rfl rfl (by decide) (fun _ => rfl) 0 0 rfl rfl (fun r_46v1 u_46v1 H locs hw hP hD hS => ?_)
          have hP : va_P (dC, dI) vwCl [((r 14), .inl (cI, 2, .inl f14)), ((r 34), .inl (cJ, 20, .inr (.inl g34))), ((r 18), .inl (cI, 2, .inl f18)), (h, .inr (7, oM r i j)), ((r 35), .inl (cJ, 24, .inr (.inl g35)))] H := hP
          have hD : va_D A [((r 14), .inl (cI, 2, .inl f14)), ((r 34), .inl (cJ, 20, .inr (.inl g34))), ((r 18), .inl (cI, 2, .inl f18)), (h, .inr (7, oM r i j)), ((r 35), .inl (cJ, 24, .inr (.inl g35)))] := hD
          refine lv_lstore (lv' := [(4, .long r_46v1), (0, .ref h), (1, .int 1), (2, .int x2), (3, .int x3)]) hx hb dX7_letter_49 hl (by decide) rfl (fun ls hl => ?_)
          refine lv_iconst (v := 0) hx hb dX7_letter_51 (by decide +kernel) ?_
          refine lv_istore (lv' := [(6, .int 0), (4, .long r_46v1), (0, .ref h), (1, .int 1), (2, .int x2), (3, .int x3)]) hx hb dX7_letter_52 hl (by decide) rfl (fun ls hl => ?_)
          refine lv_lload hx hb dX7_letter_54 (lv_at hl 1 rfl) ?_
          have J_58v1 : ∀ (n_58v1 : Nat) (j58v1_L6 : Int32) (j58v1_L7 : Int64)  (hm_58v1 : j58v1_L7.toInt.toNat < n_58v1) (H : Heap) (locs : List Loc) (ls : Array Slot), va_P (dC, dI) vwCl [(h, .inr (7, oM r i j)), ((r 14), .inl (cI, 2, .inl f14)), ((r 18), .inl (cI, 2, .inl f18)), ((r 34), .inl (cJ, 20, .inr (.inl g34))), ((r 35), .inl (cJ, 24, .inr (.inl g35)))] H → va_D A [(h, .inr (7, oM r i j)), ((r 14), .inl (cI, 2, .inl f14)), ((r 18), .inl (cI, 2, .inl f18)), ((r 34), .inl (cJ, 20, .inr (.inl g34))), ((r 35), .inl (cJ, 24, .inr (.inl g35)))] → va_S A s.heap H locs → lv_has ls 9 [(3, .int x3), (4, .long r_46v1), (6, .int j58v1_L6), (7, .long j58v1_L7)] → W p l e ({ frames := 2, cells := 0, slots := 0, locals := 63 }) s m args below meth c H locs 0 0 (MQ below (va_Qi (fun (r9 : Int32) (u9 : Unit) => True) (fun u => k_B (dC, dI) vwCl (tyy cI cJ cZ cM) A ((fun (u9 : Unit) => [(h, .inr (7, oM r i j)), ((r 14), .inl (cI, 2, .inl f14)), ((r 18), .inl (cI, 2, .inl f18)), ((r 34), .inl (cJ, 20, .inr (.inl g34))), ((r 35), .inl (cJ, 24, .inr (.inl g35)))]) u)) A) args s 0 0 A) (F0 m 58 ls []) := by
            intro n_58v1
            induction n_58v1 with
            | zero => intro j58v1_L6 j58v1_L7  hm_58v1; exact absurd hm_58v1 (Nat.not_lt_zero _)
            | succ n_58v1 ih_58v1 =>
              intro j58v1_L6 j58v1_L7  hm_58v1 H locs ls hP hD hS hl
              refine lv_lload hx hb dX7_letter_58 (lv_at hl 3 rfl) ?_
              refine lv_lconst (v := 0) hx hb dX7_letter_60 (by decide +kernel) ?_
              refine W.lcmp hx hb dX7_letter_61 ?_
              refine lv_topi (fun y_61v1 ey_61v1 => ?_)
              refine lv_if_le (tgt := 78) hx hb dX7_letter_62 (by decide) (fun c_62v1 => ?_) (fun c_62v1 => ?_)
              · have c_62v1 : y_61v1 ≤ 0 := c_62v1
                have f_78v1_1 : iR y_61v1 (-2147483648) 0 := iR_leL c_62v1 (iR_top _) (iR_c (n := 0) (a := 0) (b := 0) (by decide +kernel) (by decide +kernel)) (by decide +kernel)
                have lc_62v1 : j58v1_L7 ≤ 0 := l_cmple ey_61v1 c_62v1
                refine lv_iload_n hx hb dX7_letter_78 rfl (lv_at hl 0 rfl) ?_
                refine lv_iload hx hb dX7_letter_79 (lv_at hl 2 rfl) ?_
                refine lv_icmp_lt (tgt := 88) hx hb dX7_letter_81 (by decide) (fun c_81v1 => ?_) (fun c_81v1 => ?_)
                · have c_81v1 : x3 < j58v1_L6 := c_81v1
                  have f_88v1_2 : iR j58v1_L6 1 2147483647 := iR_ltR c_81v1 f_39v1_12 (iR_top _) (by decide +kernel)
                  refine lv_lload hx hb dX7_letter_88 (lv_at hl 1 rfl) ?_
                  refine lv_bipush (v := 8) hx hb dX7_letter_90 (by decide +kernel) ?_
                  refine lv_iload hx hb dX7_letter_92 (lv_at hl 2 rfl) ?_
                  refine lv_iconst (v := 1) hx hb dX7_letter_94 (by decide +kernel) ?_
                  refine lv_isub hx hb dX7_letter_95 ?_
                  refine lv_topi (fun y_95v1 ey_95v1 => ?_)
                  have f_95v1_3 : iR y_95v1 0 2147483646 := iR_sub ey_95v1 f_88v1_2 (iR_c (n := 1) (a := 1) (b := 1) (by decide +kernel) (by decide +kernel)) (by decide +kernel)
                  refine lv_iload_n hx hb dX7_letter_96 rfl (lv_at hl 0 rfl) ?_
                  refine lv_isub hx hb dX7_letter_97 ?_
                  refine lv_topi (fun y_97v1 ey_97v1 => ?_)
                  have f_97v1_4 : iR y_97v1 (-5) 2147483646 := iR_sub ey_97v1 f_95v1_3 f_39v1_12 (by decide +kernel)
                  refine lv_imul hx hb dX7_letter_98 ?_
                  refine lv_topi (fun y_98v1 ey_98v1 => ?_)
                  refine lv_lshr (v := r_46v1 >>> (y_98v1.toInt64 &&& 63)) hx hb dX7_letter_99 rfl ?_
                  refine lv_topl (fun y_99v1 ey_99v1 => ?_)
                  refine lv_ldc2 (v := 255) hx hb hown w_1 dX7_letter_100 ?_
                  refine lv_land hx hb dX7_letter_103 ?_
                  refine lv_topl (fun y_103v1 ey_103v1 => ?_)
                  refine lv_l2i (v := y_103v1.toInt32) hx hb dX7_letter_104 rfl ?_
                  refine lv_topi (fun y_104v1 ey_104v1 => ?_)
                  refine lv_bipush (v := 97) hx hb dX7_letter_105 (by decide +kernel) ?_
                  refine lv_isub hx hb dX7_letter_107 ?_
                  refine lv_topi (fun y_107v1 ey_107v1 => ?_)
                  refine lv_iconst (v := 1) hx hb dX7_letter_108 (by decide +kernel) ?_
                  refine lv_iadd hx hb dX7_letter_109 ?_
                  refine lv_topi (fun y_109v1 ey_109v1 => ?_)
                  exact k_ri B hP hD hS dX7_letter_110 () [0, 1, 2, 3, 4] rfl rfl rfl (Nat.le_of_ble_eq_true rfl) (Nat.le_of_ble_eq_true rfl) trivial
                · have c_81v1 : j58v1_L6 ≤ x3 := i_nlt c_81v1
                  have f_84v1_2 : iR j58v1_L6 (-2147483648) 5 := iR_leL c_81v1 (iR_top _) f_39v1_12 (by decide +kernel)
                  refine lv_iconst (v := 0) hx hb dX7_letter_84 (by decide +kernel) ?_
                  refine lv_goto (tgt := 110) hx hb dX7_letter_85 (by decide) ?_
                  exact k_ri B hP hD hS dX7_letter_110 () [0, 1, 2, 3, 4] rfl rfl rfl (Nat.le_of_ble_eq_true rfl) (Nat.le_of_ble_eq_true rfl) trivial
              · have c_62v1 : 0 < y_61v1 := i_nle c_62v1
                have f_65v1_1 : iR y_61v1 1 2147483647 := iR_ltR c_62v1 (iR_c (n := 0) (a := 0) (b := 0) (by decide +kernel) (by decide +kernel)) (iR_top _) (by decide +kernel)
                have lc_62v1 : 0 < j58v1_L7 := l_cmpgt ey_61v1 c_62v1
                obtain ⟨y_65v1, ey_65v1⟩ : ∃ y : Int32, y = j58v1_L6 + 1 := ⟨_, rfl⟩
                refine lv_iinc (v := y_65v1) (lv' := [(6, .int y_65v1), (3, .int x3), (4, .long r_46v1), (7, .long j58v1_L7)]) hx hb dX7_letter_65 hl (k := 2) rfl ey_65v1.symm (by decide) rfl (fun ls hl => ?_)
                refine lv_lload hx hb dX7_letter_68 (lv_at hl 3 rfl) ?_
                refine lv_bipush (v := 8) hx hb dX7_letter_70 (by decide +kernel) ?_
                refine lv_lshr (v := j58v1_L7 >>> ((8 : Int32).toInt64 &&& 63)) hx hb dX7_letter_72 rfl ?_
                refine lv_topl (fun y_72v1 ey_72v1 => ?_)
                refine lv_lstore (lv' := [(7, .long y_72v1), (6, .int y_65v1), (3, .int x3), (4, .long r_46v1)]) hx hb dX7_letter_73 hl (by decide) rfl (fun ls hl => ?_)
                refine lv_goto (tgt := 58) hx hb dX7_letter_75 (by decide) ?_
                exact ih_58v1 y_65v1 y_72v1  (m_shr8 hm_58v1 ey_72v1 lc_62v1) H locs ls hP hD hS (lv_sub hl [2, 3, 1, 0] rfl)
          refine lv_lstore (lv' := [(7, .long r_46v1), (6, .int 0), (4, .long r_46v1), (0, .ref h), (1, .int 1), (2, .int x2), (3, .int x3)]) hx hb dX7_letter_56 hl (by decide) rfl (fun ls hl => ?_)
          exact J_58v1 _ 0 r_46v1  (Nat.lt_succ_self _) H locs ls (hP.sub [3, 0, 2, 1, 4] rfl) (hD.sub [3, 0, 2, 1, 4] (by decide +kernel) rfl) hS (lv_sub hl [6, 2, 1, 0] rfl)
        · have c_34v1 : r_31v1 = 0 := c_34v1
          have f_37v1_10 : iR r_31v1 0 0 := iR_eqL c_34v1 g_31v1_0 (iR_c (n := 0) (a := 0) (b := 0) (by decide +kernel) (by decide +kernel)) (by decide +kernel)
          exact J_37   H locs ls (hP.sub [3, 0, 4, 1, 2] rfl) (hD.sub [3, 0, 4, 1, 2] (by decide +kernel) rfl) hS (lv_sub hl [] rfl)
set_option maxHeartbeats 8000000 in
set_option maxRecDepth 100000 in
theorem s_X7_isThing_v0 (l : Launch) (dC : Nat → ClassId) (dI : Nat → Nat → Nat) (cI cJ cZ cM : ClassId) (h : Nat) (r : Nat → Nat) (i : Nat → Int32) (j : Nat → Int64) (x1 : Int32) (f14 : Nat → Int32) (hI : mR i) (hf14 : aR f14 0 10) : k_Mi l yX7_isThing wsX7_isThing ({ frames := 1, cells := 0, slots := 0, locals := 40 }) (dC, dI) vwCl (tyy cI cJ cZ cM) [(h, .inr (7, oM r i j)), ((r 14), .inl (cI, 2, .inl f14))] [.ref h, .int x1] 0 0 (fun (u9 : Unit) => [(h, .inr (7, oM r i j)), ((r 14), .inl (cI, 2, .inl f14))]) (fun (r9 : Int32) (u9 : Unit) => (iR r9 0 1) ∧ ((r9 = 0) ∨ ((0 ≤ x1) ∧ (x1 < (f14 (i 13).toNatClampNeg))))) := by
  refine fun sz => k_enter (cc := cX7_isThing) (maxL := 2) (ret := some (.boolean)) (Qc := fun A => va_Qi (fun (r9 : Int32) (u9 : Unit) => (iR r9 0 1) ∧ ((r9 = 0) ∨ ((0 ≤ x1) ∧ (x1 < (f14 (i 13).toNatClampNeg))))) (fun u => k_B (dC, dI) vwCl (tyy cI cJ cZ cM) A ((fun (u9 : Unit) => [(h, .inr (7, oM r i j)), ((r 14), .inl (cI, 2, .inl f14))]) u)) A) sz (by decide +kernel) rfl (Nat.le_of_ble_eq_true rfl) (fun p e s m args below meth c A ls H locs B hP hD hS hl => ?_)
  obtain ⟨hx, hb, hml, hown, hts, hr, hlk, hnm, hK, hA, hN, hC⟩ := id B
  have hown : s.vm.findClass RX7 = some m.cls := hown
  have hl : lv_has ls 2 [(0, .ref h), (1, .int x1)] := hl
  have w_0 : (Cond.fieldLink RX7 54 "WishSeaModel" "things" "[I").before args s = true := hts _ (List.mem_of_getElem? (i := 1) rfl)
  have w_1 : (Cond.fieldLink RX7 51 "WishSeaModel" "bank" "I").before args s = true := hts _ (List.mem_of_getElem? (i := 2) rfl)
  have hinX7 : ∀ w ∈ u_ws RX7 TX7 92, w ∈ wsX7_isThing := fun _ h => List.mem_cons_of_mem _ (List.mem_append_right _ h)
  refine lv_iload_n hx hb dX7_isThing_0 rfl (lv_at hl 1 rfl) ?_
  have J_21 : ∀   (H : Heap) (locs : List Loc) (ls : Array Slot), va_P (dC, dI) vwCl [(h, .inr (7, oM r i j)), ((r 14), .inl (cI, 2, .inl f14))] H → va_D A [(h, .inr (7, oM r i j)), ((r 14), .inl (cI, 2, .inl f14))] → va_S A s.heap H locs → lv_has ls 2 [] → W p l e ({ frames := 1, cells := 0, slots := 0, locals := 40 }) s m args below meth c H locs 0 0 (MQ below (va_Qi (fun (r9 : Int32) (u9 : Unit) => (iR r9 0 1) ∧ ((r9 = 0) ∨ ((0 ≤ x1) ∧ (x1 < (f14 (i 13).toNatClampNeg))))) (fun u => k_B (dC, dI) vwCl (tyy cI cJ cZ cM) A ((fun (u9 : Unit) => [(h, .inr (7, oM r i j)), ((r 14), .inl (cI, 2, .inl f14))]) u)) A) args s 0 0 A) (F0 m 21 ls []) := by
    intro   H locs ls hP hD hS hl
    refine lv_iconst (v := 0) hx hb dX7_isThing_21 (by decide +kernel) ?_
    exact k_ri B hP hD hS dX7_isThing_22 () [0, 1] rfl rfl rfl (Nat.le_of_ble_eq_true rfl) (Nat.le_of_ble_eq_true rfl) ⟨(show iR 0 0 1 from (iR_c (n := 0) (a := 0) (b := 1) (by decide +kernel) (by decide +kernel))), (show (0 = 0) ∨ ((0 ≤ x1) ∧ (x1 < (f14 (i 13).toNatClampNeg))) from (Or.inl rfl))⟩
  refine lv_if_lt (tgt := 21) hx hb dX7_isThing_1 (by decide) (fun c_1 => ?_) (fun c_1 => ?_)
  · have c_1 : x1 < 0 := c_1
    have f_21_1 : iR x1 (-2147483648) (-1) := iR_ltL c_1 (iR_top _) (iR_c (n := 0) (a := 0) (b := 0) (by decide +kernel) (by decide +kernel)) (by decide +kernel)
    exact J_21   H locs ls hP hD hS (lv_sub hl [] rfl)
  · have c_1 : 0 ≤ x1 := i_nlt c_1
    have f_4_1 : iR x1 0 2147483647 := iR_leR c_1 (iR_c (n := 0) (a := 0) (b := 0) (by decide +kernel) (by decide +kernel)) (iR_top _) (by decide +kernel)
    refine lv_iload_n hx hb dX7_isThing_4 rfl (lv_at hl 1 rfl) ?_
    refine lv_aload_n hx hb dX7_isThing_5 rfl (lv_at hl 0 rfl) ?_
    refine k_get (D := (dC, dI)) (ci := 7) (v := .ref (r 14)) (C := RX7) (T := TX7) (N := 92) hx hb hts hinX7 hown hK hP 0 rfl rfl 14 (by decide) w_0 rfl rfl dX7_isThing_6 ?_
    refine lv_aload_n hx hb dX7_isThing_9 rfl (lv_at hl 0 rfl) ?_
    have f_10_2 : iR (i 13) 0 1 := hI 13
    refine k_get (D := (dC, dI)) (ci := 7) (v := .int (i 13)) (C := RX7) (T := TX7) (N := 92) hx hb hts hinX7 hown hK hP 0 rfl rfl 13 (by decide) w_1 rfl rfl dX7_isThing_10 ?_
    refine va_iald hx hb hK hP 1 0 rfl rfl (iR_vp f_10_2 (by decide +kernel)) dX7_isThing_13 ?_
    have f_13_3 : iR (f14 (i 13).toNatClampNeg) 0 10 := hf14 _
    refine lv_icmp_ge (tgt := 21) hx hb dX7_isThing_14 (by decide) (fun c_14 => ?_) (fun c_14 => ?_)
    · have c_14 : (f14 (i 13).toNatClampNeg) ≤ x1 := c_14
      exact J_21   H locs ls hP hD hS (lv_sub hl [] rfl)
    · have c_14 : x1 < (f14 (i 13).toNatClampNeg) := i_nle c_14
      have f_17_4 : iR x1 0 9 := iR_ltL c_14 f_4_1 f_13_3 (by decide +kernel)
      have f_17_5 : iR (f14 (i 13).toNatClampNeg) 1 10 := iR_ltR c_14 f_4_1 f_13_3 (by decide +kernel)
      refine lv_iconst (v := 1) hx hb dX7_isThing_17 (by decide +kernel) ?_
      refine lv_goto (tgt := 22) hx hb dX7_isThing_18 (by decide) ?_
      exact k_ri B hP hD hS dX7_isThing_22 () [0, 1] rfl rfl rfl (Nat.le_of_ble_eq_true rfl) (Nat.le_of_ble_eq_true rfl) ⟨(show iR 1 0 1 from (iR_c (n := 1) (a := 0) (b := 1) (by decide +kernel) (by decide +kernel))), (show (1 = 0) ∨ ((0 ≤ x1) ∧ (x1 < (f14 (i 13).toNatClampNeg))) from (Or.inr ⟨c_1, c_14⟩))⟩
set_option maxHeartbeats 8000000 in
set_option maxRecDepth 100000 in
theorem s_X7_thing_v0 (l : Launch) (dC : Nat → ClassId) (dI : Nat → Nat → Nat) (cI cJ cZ cM : ClassId) (h : Nat) (r : Nat → Nat) (i : Nat → Int32) (j : Nat → Int64) (x1 : Int32) (x2 : Int32) (f14 : Nat → Int32) (f15 : Nat → Int32) (f16 : Nat → Int32) (f17 : Nat → Int32) (f18 : Nat → Int32) (f20 : Nat → Int32) (f23 : Nat → Int32) (f49 : Nat → Int32) (hI : mR i) (hf14 : aR f14 0 10) (hf15 : aR f15 0 9999) (hf17 : aR f17 0 1) (hf18 : aR f18 0 12) (hf20 : aR f20 0 9) (hf23 : aR f23 0 1023) (hf49 : aR f49 0 1023) : k_Mi l yX7_thing wsX7_thing ({ frames := 2, cells := 0, slots := 0, locals := 61 }) (dC, dI) vwCl (tyy cI cJ cZ cM) [(h, .inr (7, oM r i j)), ((r 14), .inl (cI, 2, .inl f14)), ((r 15), .inl (cI, 20, .inl f15)), ((r 16), .inl (cI, 20, .inl f16)), ((r 17), .inl (cI, 20, .inl f17)), ((r 18), .inl (cI, 2, .inl f18)), ((r 20), .inl (cI, 24, .inl f20)), ((r 23), .inl (cI, 2, .inl f23)), ((r 49), .inl (cI, 22, .inl f49))] [.ref h, .int x1, .int x2] 0 0 (fun (u9 : Unit) => [(h, .inr (7, oM r i j)), ((r 14), .inl (cI, 2, .inl f14)), ((r 15), .inl (cI, 20, .inl f15)), ((r 16), .inl (cI, 20, .inl f16)), ((r 17), .inl (cI, 20, .inl f17)), ((r 18), .inl (cI, 2, .inl f18)), ((r 20), .inl (cI, 24, .inl f20)), ((r 23), .inl (cI, 2, .inl f23)), ((r 49), .inl (cI, 22, .inl f49))]) (fun (r9 : Int32) (u9 : Unit) => True) := by
  refine fun sz => k_enter (cc := cX7_thing) (maxL := 5) (ret := some (.int)) (Qc := fun A => va_Qi (fun (r9 : Int32) (u9 : Unit) => True) (fun u => k_B (dC, dI) vwCl (tyy cI cJ cZ cM) A ((fun (u9 : Unit) => [(h, .inr (7, oM r i j)), ((r 14), .inl (cI, 2, .inl f14)), ((r 15), .inl (cI, 20, .inl f15)), ((r 16), .inl (cI, 20, .inl f16)), ((r 17), .inl (cI, 20, .inl f17)), ((r 18), .inl (cI, 2, .inl f18)), ((r 20), .inl (cI, 24, .inl f20)), ((r 23), .inl (cI, 2, .inl f23)), ((r 49), .inl (cI, 22, .inl f49))]) u)) A) sz (by decide +kernel) rfl (Nat.le_of_ble_eq_true rfl) (fun p e s m args below meth c A ls H locs B hP hD hS hl => ?_)
  obtain ⟨hx, hb, hml, hown, hts, hr, hlk, hnm, hK, hA, hN, hC⟩ := id B
  have hown : s.vm.findClass RX7 = some m.cls := hown
  have hl : lv_has ls 5 [(0, .ref h), (1, .int x1), (2, .int x2)] := hl
  have w_0 : (Cond.fieldLink RX7 57 "WishSeaModel" "thingWorth" "[I").before args s = true := hts _ (List.mem_of_getElem? (i := 1) rfl)
  have w_1 : (Cond.fieldLink RX7 51 "WishSeaModel" "bank" "I").before args s = true := hts _ (List.mem_of_getElem? (i := 2) rfl)
  have w_2 : (Cond.fieldLink RX7 60 "WishSeaModel" "thingRhyme" "[I").before args s = true := hts _ (List.mem_of_getElem? (i := 3) rfl)
  have w_3 : (Cond.fieldLink RX7 63 "WishSeaModel" "thingBrief" "[I").before args s = true := hts _ (List.mem_of_getElem? (i := 4) rfl)
  have w_4 : (Cond.fieldLink RX7 162 "WishSeaModel" "hadOf" "[I").before args s = true := hts _ (List.mem_of_getElem? (i := 5) rfl)
  have w_5 : (Cond.fieldLink RX7 81 "WishSeaModel" "firstOnes" "[I").before args s = true := hts _ (List.mem_of_getElem? (i := 6) rfl)
  have w_6 : (Cond.fieldLink RX7 66 "WishSeaModel" "wishes" "[I").before args s = true := hts _ (List.mem_of_getElem? (i := 7) rfl)
  have hinX7 : ∀ w ∈ u_ws RX7 TX7 92, w ∈ wsX7_thing := fun _ h => List.mem_cons_of_mem _ (List.mem_append_right _ h)
  refine lv_aload_n hx hb dX7_thing_0 rfl (lv_at hl 0 rfl) ?_
  refine lv_iload_n hx hb dX7_thing_1 rfl (lv_at hl 1 rfl) ?_
  refine k_ci (wc := [(h, .inr (7, oM r i j)), ((r 14), .inl (cI, 2, .inl f14))]) (wr := [((r 15), .inl (cI, 20, .inl f15)), ((r 16), .inl (cI, 20, .inl f16)), ((r 17), .inl (cI, 20, .inl f17)), ((r 18), .inl (cI, 2, .inl f18)), ((r 20), .inl (cI, 24, .inl f20)), ((r 23), .inl (cI, 2, .inl f23)), ((r 49), .inl (cI, 22, .inl f49))]) (fun hPc hDc hFc => va_runV (As := [.int x1]) (rest := []) ⟨hx, hb, hml, hown, hts⟩ (s_X7_isThing_v0 l dC dI cI cJ cZ cM h r i j x1 f14 hI hf14 H.size) (cwV 1 hts gX7_thing_X7_isThing rfl rfl rfl (by decide +kernel) ⟨(Nat.le_of_ble_eq_true rfl), (Nat.le_of_ble_eq_true rfl)⟩) (k_pV hPc hDc hK hN hC hS hFc hP (q0 := 0) (ci := 7) rfl rfl) rfl rfl hl.1 rfl (lv_room (Nat.le_of_ble_eq_true rfl)) dX7_thing_2 ⟨(Nat.le_of_ble_eq_true rfl), (Nat.le_of_ble_eq_true rfl)⟩) hP hD hS hA [0, 1] [2, 3, 4, 5, 6, 7, 8] rfl rfl rfl rfl (by decide) (fun _ => rfl) 0 0 rfl rfl (fun r_2 u_2 H locs hw hP hD hS => ?_)
  obtain ⟨g_2_0, g_2_1⟩ := hw
  have hP : va_P (dC, dI) vwCl [((r 15), .inl (cI, 20, .inl f15)), ((r 16), .inl (cI, 20, .inl f16)), ((r 17), .inl (cI, 20, .inl f17)), ((r 18), .inl (cI, 2, .inl f18)), ((r 20), .inl (cI, 24, .inl f20)), ((r 23), .inl (cI, 2, .inl f23)), ((r 49), .inl (cI, 22, .inl f49)), (h, .inr (7, oM r i j)), ((r 14), .inl (cI, 2, .inl f14))] H := hP
  have hD : va_D A [((r 15), .inl (cI, 20, .inl f15)), ((r 16), .inl (cI, 20, .inl f16)), ((r 17), .inl (cI, 20, .inl f17)), ((r 18), .inl (cI, 2, .inl f18)), ((r 20), .inl (cI, 24, .inl f20)), ((r 23), .inl (cI, 2, .inl f23)), ((r 49), .inl (cI, 22, .inl f49)), (h, .inr (7, oM r i j)), ((r 14), .inl (cI, 2, .inl f14))] := hD
  have g_2_1 : (r_2 = 0) ∨ ((0 ≤ x1) ∧ (x1 < (f14 (i 13).toNatClampNeg))) := g_2_1
  refine lv_if_ne (tgt := 10) hx hb dX7_thing_5 (by decide) (fun c_5 => ?_) (fun c_5 => ?_)
  · have c_5 : ¬ r_2 = 0 := c_5
    have f_10_1 : iR r_2 1 1 := iR_neL c_5 g_2_0 (iR_c (n := 0) (a := 0) (b := 0) (by decide +kernel) (by decide +kernel)) (by decide +kernel)
    obtain ⟨d_5_1_0, d_5_1_1⟩ := g_2_1.resolve_left c_5
    have f_10_2 : iR x1 0 2147483647 := iR_leR d_5_1_0 (iR_c (n := 0) (a := 0) (b := 0) (by decide +kernel) (by decide +kernel)) (iR_top _) (by decide +kernel)
    have f_10_3 : iR x1 0 9 := iR_ltL d_5_1_1 f_10_2 (show iR (f14 (i 13).toNatClampNeg) 0 10 from hf14 _) (by decide +kernel)
    have f_10_4 : iR (f14 (i 13).toNatClampNeg) 1 10 := iR_ltR d_5_1_1 f_10_2 (show iR (f14 (i 13).toNatClampNeg) 0 10 from hf14 _) (by decide +kernel)
    refine lv_iconst (v := 0) hx hb dX7_thing_10 (by decide +kernel) ?_
    refine lv_istore_n (lv' := [(3, .int 0), (0, .ref h), (1, .int x1), (2, .int x2)]) hx hb dX7_thing_11 rfl hl (by decide) rfl (fun ls hl => ?_)
    refine lv_iload_n hx hb dX7_thing_12 rfl (lv_at hl 3 rfl) ?_
    rcases (show x2.toInt = 0 ∨ x2.toInt = 1 ∨ x2.toInt = 2 ∨ x2.toInt = 3 ∨ x2.toInt = 4 ∨ x2.toInt = 5 ∨ (¬ x2.toInt = 0 ∧ ¬ x2.toInt = 1 ∧ ¬ x2.toInt = 2 ∧ ¬ x2.toInt = 3 ∧ ¬ x2.toInt = 4 ∧ ¬ x2.toInt = 5) by omega) with c_13 | c_13 | c_13 | c_13 | c_13 | c_13 | c_13
    · have f_52_5 : iR x2 0 0 := iR_c c_13 (by decide +kernel)
      refine lv_tableIn (off := 39) (tgt := 52) hx hb dX7_thing_13 (by rw [c_13]; decide) (by rw [c_13]; decide) (by rw [c_13]; decide +kernel) (by decide +kernel) ?_
      refine lv_aload_n hx hb dX7_thing_52 rfl (lv_at hl 1 rfl) ?_
      refine k_get (D := (dC, dI)) (ci := 7) (v := .ref (r 15)) (C := RX7) (T := TX7) (N := 92) hx hb hts hinX7 hown hK hP 7 rfl rfl 15 (by decide) w_0 rfl rfl dX7_thing_53 ?_
      refine lv_bipush (v := 10) hx hb dX7_thing_56 (by decide +kernel) ?_
      refine lv_aload_n hx hb dX7_thing_58 rfl (lv_at hl 1 rfl) ?_
      have f_59_6 : iR (i 13) 0 1 := hI 13
      refine k_get (D := (dC, dI)) (ci := 7) (v := .int (i 13)) (C := RX7) (T := TX7) (N := 92) hx hb hts hinX7 hown hK hP 7 rfl rfl 13 (by decide) w_1 rfl rfl dX7_thing_59 ?_
      refine lv_imul hx hb dX7_thing_62 ?_
      refine lv_topi (fun y_62 ey_62 => ?_)
      have f_62_7 : iR y_62 0 10 := iR_mul ey_62 (iR_c (n := 10) (a := 10) (b := 10) (by decide +kernel) (by decide +kernel)) f_59_6 (by decide +kernel)
      refine lv_iload_n hx hb dX7_thing_63 rfl (lv_at hl 2 rfl) ?_
      refine lv_iadd hx hb dX7_thing_64 ?_
      refine lv_topi (fun y_64 ey_64 => ?_)
      have f_64_8 : iR y_64 0 19 := iR_add ey_64 f_62_7 f_10_3 (by decide +kernel)
      refine va_iald hx hb hK hP 0 0 rfl rfl (iR_vp f_64_8 (by decide +kernel)) dX7_thing_65 ?_
      have f_65_9 : iR (f15 y_64.toNatClampNeg) 0 9999 := hf15 _
      exact k_ri B hP hD hS dX7_thing_66 () [7, 8, 0, 1, 2, 3, 4, 5, 6] rfl rfl rfl (Nat.le_of_ble_eq_true rfl) (Nat.le_of_ble_eq_true rfl) trivial
    · have f_67_5 : iR x2 1 1 := iR_c c_13 (by decide +kernel)
      refine lv_tableIn (off := 54) (tgt := 67) hx hb dX7_thing_13 (by rw [c_13]; decide) (by rw [c_13]; decide) (by rw [c_13]; decide +kernel) (by decide +kernel) ?_
      refine lv_aload_n hx hb dX7_thing_67 rfl (lv_at hl 1 rfl) ?_
      refine k_get (D := (dC, dI)) (ci := 7) (v := .ref (r 16)) (C := RX7) (T := TX7) (N := 92) hx hb hts hinX7 hown hK hP 7 rfl rfl 16 (by decide) w_2 rfl rfl dX7_thing_68 ?_
      refine lv_bipush (v := 10) hx hb dX7_thing_71 (by decide +kernel) ?_
      refine lv_aload_n hx hb dX7_thing_73 rfl (lv_at hl 1 rfl) ?_
      have f_74_6 : iR (i 13) 0 1 := hI 13
      refine k_get (D := (dC, dI)) (ci := 7) (v := .int (i 13)) (C := RX7) (T := TX7) (N := 92) hx hb hts hinX7 hown hK hP 7 rfl rfl 13 (by decide) w_1 rfl rfl dX7_thing_74 ?_
      refine lv_imul hx hb dX7_thing_77 ?_
      refine lv_topi (fun y_77 ey_77 => ?_)
      have f_77_7 : iR y_77 0 10 := iR_mul ey_77 (iR_c (n := 10) (a := 10) (b := 10) (by decide +kernel) (by decide +kernel)) f_74_6 (by decide +kernel)
      refine lv_iload_n hx hb dX7_thing_78 rfl (lv_at hl 2 rfl) ?_
      refine lv_iadd hx hb dX7_thing_79 ?_
      refine lv_topi (fun y_79 ey_79 => ?_)
      have f_79_8 : iR y_79 0 19 := iR_add ey_79 f_77_7 f_10_3 (by decide +kernel)
      refine va_iald hx hb hK hP 1 0 rfl rfl (iR_vp f_79_8 (by decide +kernel)) dX7_thing_80 ?_
      exact k_ri B hP hD hS dX7_thing_81 () [7, 8, 0, 1, 2, 3, 4, 5, 6] rfl rfl rfl (Nat.le_of_ble_eq_true rfl) (Nat.le_of_ble_eq_true rfl) trivial
    · have f_82_5 : iR x2 2 2 := iR_c c_13 (by decide +kernel)
      refine lv_tableIn (off := 69) (tgt := 82) hx hb dX7_thing_13 (by rw [c_13]; decide) (by rw [c_13]; decide) (by rw [c_13]; decide +kernel) (by decide +kernel) ?_
      refine lv_aload_n hx hb dX7_thing_82 rfl (lv_at hl 1 rfl) ?_
      refine k_get (D := (dC, dI)) (ci := 7) (v := .ref (r 17)) (C := RX7) (T := TX7) (N := 92) hx hb hts hinX7 hown hK hP 7 rfl rfl 17 (by decide) w_3 rfl rfl dX7_thing_83 ?_
      refine lv_bipush (v := 10) hx hb dX7_thing_86 (by decide +kernel) ?_
      refine lv_aload_n hx hb dX7_thing_88 rfl (lv_at hl 1 rfl) ?_
      have f_89_6 : iR (i 13) 0 1 := hI 13
      refine k_get (D := (dC, dI)) (ci := 7) (v := .int (i 13)) (C := RX7) (T := TX7) (N := 92) hx hb hts hinX7 hown hK hP 7 rfl rfl 13 (by decide) w_1 rfl rfl dX7_thing_89 ?_
      refine lv_imul hx hb dX7_thing_92 ?_
      refine lv_topi (fun y_92 ey_92 => ?_)
      have f_92_7 : iR y_92 0 10 := iR_mul ey_92 (iR_c (n := 10) (a := 10) (b := 10) (by decide +kernel) (by decide +kernel)) f_89_6 (by decide +kernel)
      refine lv_iload_n hx hb dX7_thing_93 rfl (lv_at hl 2 rfl) ?_
      refine lv_iadd hx hb dX7_thing_94 ?_
      refine lv_topi (fun y_94 ey_94 => ?_)
      have f_94_8 : iR y_94 0 19 := iR_add ey_94 f_92_7 f_10_3 (by decide +kernel)
      refine va_iald hx hb hK hP 2 0 rfl rfl (iR_vp f_94_8 (by decide +kernel)) dX7_thing_95 ?_
      have f_95_9 : iR (f17 y_94.toNatClampNeg) 0 1 := hf17 _
      exact k_ri B hP hD hS dX7_thing_96 () [7, 8, 0, 1, 2, 3, 4, 5, 6] rfl rfl rfl (Nat.le_of_ble_eq_true rfl) (Nat.le_of_ble_eq_true rfl) trivial
    · have f_97_5 : iR x2 3 3 := iR_c c_13 (by decide +kernel)
      refine lv_tableIn (off := 84) (tgt := 97) hx hb dX7_thing_13 (by rw [c_13]; decide) (by rw [c_13]; decide) (by rw [c_13]; decide +kernel) (by decide +kernel) ?_
      refine lv_aload_n hx hb dX7_thing_97 rfl (lv_at hl 1 rfl) ?_
      refine k_get (D := (dC, dI)) (ci := 7) (v := .ref (r 49)) (C := RX7) (T := TX7) (N := 92) hx hb hts hinX7 hown hK hP 7 rfl rfl 49 (by decide) w_4 rfl rfl dX7_thing_98 ?_
      refine lv_iconst (v := 0) hx hb dX7_thing_101 (by decide +kernel) ?_
      refine k_iald (v := (f49 0)) hx hb hK hP 6 0 0 rfl rfl rfl (Nat.le_of_ble_eq_true rfl) (Nat.le_of_ble_eq_true rfl) rfl dX7_thing_102 ?_
      have f_102_6 : iR (f49 0) 0 1023 := hf49 _
      refine lv_iload_n hx hb dX7_thing_103 rfl (lv_at hl 2 rfl) ?_
      refine k_ci (wc := []) (wr := [((r 15), .inl (cI, 20, .inl f15)), ((r 16), .inl (cI, 20, .inl f16)), ((r 17), .inl (cI, 20, .inl f17)), ((r 18), .inl (cI, 2, .inl f18)), ((r 20), .inl (cI, 24, .inl f20)), ((r 23), .inl (cI, 2, .inl f23)), ((r 49), .inl (cI, 22, .inl f49)), (h, .inr (7, oM r i j)), ((r 14), .inl (cI, 2, .inl f14))]) (fun hPc hDc hFc => va_runS (As := [.int (f49 0), .int x1]) (rest := []) ⟨hx, hb, hml, hown, hts⟩ (s_X7_holds_v0 l dC dI cI cJ cZ cM (f49 0) x1 H.size) (va_cwS 2 hts gX7_thing_X7_holds rfl rfl rfl (by decide +kernel) ⟨(Nat.le_of_ble_eq_true rfl), (Nat.le_of_ble_eq_true rfl)⟩) (k_pS hPc hDc hK hN hC hS hFc) rfl rfl hl.1 rfl (lv_room (Nat.le_of_ble_eq_true rfl)) dX7_thing_104 ⟨(Nat.le_of_ble_eq_true rfl), (Nat.le_of_ble_eq_true rfl)⟩) hP hD hS hA [] [0, 1, 2, 3, 4, 5, 6, 7, 8] rfl rfl rfl rfl (by decide) (fun _ => rfl) 0 0 rfl rfl (fun r_104 u_104 H locs hw hP hD hS => ?_)
      obtain ⟨g_104_0, g_104_1⟩ := hw
      have hP : va_P (dC, dI) vwCl [((r 15), .inl (cI, 20, .inl f15)), ((r 16), .inl (cI, 20, .inl f16)), ((r 17), .inl (cI, 20, .inl f17)), ((r 18), .inl (cI, 2, .inl f18)), ((r 20), .inl (cI, 24, .inl f20)), ((r 23), .inl (cI, 2, .inl f23)), ((r 49), .inl (cI, 22, .inl f49)), (h, .inr (7, oM r i j)), ((r 14), .inl (cI, 2, .inl f14))] H := hP
      have hD : va_D A [((r 15), .inl (cI, 20, .inl f15)), ((r 16), .inl (cI, 20, .inl f16)), ((r 17), .inl (cI, 20, .inl f17)), ((r 18), .inl (cI, 2, .inl f18)), ((r 20), .inl (cI, 24, .inl f20)), ((r 23), .inl (cI, 2, .inl f23)), ((r 49), .inl (cI, 22, .inl f49)), (h, .inr (7, oM r i j)), ((r 14), .inl (cI, 2, .inl f14))] := hD
      have g_104_1 : r_104 = hof (f49 0) x1 := g_104_1
      refine lv_if_eq (tgt := 114) hx hb dX7_thing_107 (by decide) (fun c_107 => ?_) (fun c_107 => ?_)
      · have c_107 : r_104 = 0 := c_107
        have f_114_7 : iR r_104 0 0 := iR_eqL c_107 g_104_0 (iR_c (n := 0) (a := 0) (b := 0) (by decide +kernel) (by decide +kernel)) (by decide +kernel)
        refine lv_iconst (v := 0) hx hb dX7_thing_114 (by decide +kernel) ?_
        exact k_ri B hP hD hS dX7_thing_115 () [7, 8, 0, 1, 2, 3, 4, 5, 6] rfl rfl rfl (Nat.le_of_ble_eq_true rfl) (Nat.le_of_ble_eq_true rfl) trivial
      · have c_107 : ¬ r_104 = 0 := c_107
        have f_110_7 : iR r_104 1 1 := iR_neL c_107 g_104_0 (iR_c (n := 0) (a := 0) (b := 0) (by decide +kernel) (by decide +kernel)) (by decide +kernel)
        refine lv_iconst (v := 1) hx hb dX7_thing_110 (by decide +kernel) ?_
        refine lv_goto (tgt := 115) hx hb dX7_thing_111 (by decide) ?_
        exact k_ri B hP hD hS dX7_thing_115 () [7, 8, 0, 1, 2, 3, 4, 5, 6] rfl rfl rfl (Nat.le_of_ble_eq_true rfl) (Nat.le_of_ble_eq_true rfl) trivial
    · have f_116_5 : iR x2 4 4 := iR_c c_13 (by decide +kernel)
      refine lv_tableIn (off := 103) (tgt := 116) hx hb dX7_thing_13 (by rw [c_13]; decide) (by rw [c_13]; decide) (by rw [c_13]; decide +kernel) (by decide +kernel) ?_
      refine lv_aload_n hx hb dX7_thing_116 rfl (lv_at hl 1 rfl) ?_
      refine k_get (D := (dC, dI)) (ci := 7) (v := .ref (r 23)) (C := RX7) (T := TX7) (N := 92) hx hb hts hinX7 hown hK hP 7 rfl rfl 23 (by decide) w_5 rfl rfl dX7_thing_117 ?_
      refine lv_aload_n hx hb dX7_thing_120 rfl (lv_at hl 1 rfl) ?_
      have f_121_6 : iR (i 13) 0 1 := hI 13
      refine k_get (D := (dC, dI)) (ci := 7) (v := .int (i 13)) (C := RX7) (T := TX7) (N := 92) hx hb hts hinX7 hown hK hP 7 rfl rfl 13 (by decide) w_1 rfl rfl dX7_thing_121 ?_
      refine va_iald hx hb hK hP 5 0 rfl rfl (iR_vp f_121_6 (by decide +kernel)) dX7_thing_124 ?_
      have f_124_7 : iR (f23 (i 13).toNatClampNeg) 0 1023 := hf23 _
      refine lv_iload_n hx hb dX7_thing_125 rfl (lv_at hl 2 rfl) ?_
      refine k_ci (wc := []) (wr := [((r 15), .inl (cI, 20, .inl f15)), ((r 16), .inl (cI, 20, .inl f16)), ((r 17), .inl (cI, 20, .inl f17)), ((r 18), .inl (cI, 2, .inl f18)), ((r 20), .inl (cI, 24, .inl f20)), ((r 23), .inl (cI, 2, .inl f23)), ((r 49), .inl (cI, 22, .inl f49)), (h, .inr (7, oM r i j)), ((r 14), .inl (cI, 2, .inl f14))]) (fun hPc hDc hFc => va_runS (As := [.int (f23 (i 13).toNatClampNeg), .int x1]) (rest := []) ⟨hx, hb, hml, hown, hts⟩ (s_X7_holds_v0 l dC dI cI cJ cZ cM (f23 (i 13).toNatClampNeg) x1 H.size) (va_cwS 2 hts gX7_thing_X7_holds rfl rfl rfl (by decide +kernel) ⟨(Nat.le_of_ble_eq_true rfl), (Nat.le_of_ble_eq_true rfl)⟩) (k_pS hPc hDc hK hN hC hS hFc) rfl rfl hl.1 rfl (lv_room (Nat.le_of_ble_eq_true rfl)) dX7_thing_126 ⟨(Nat.le_of_ble_eq_true rfl), (Nat.le_of_ble_eq_true rfl)⟩) hP hD hS hA [] [0, 1, 2, 3, 4, 5, 6, 7, 8] rfl rfl rfl rfl (by decide) (fun _ => rfl) 0 0 rfl rfl (fun r_126 u_126 H locs hw hP hD hS => ?_)
      obtain ⟨g_126_0, g_126_1⟩ := hw
      have hP : va_P (dC, dI) vwCl [((r 15), .inl (cI, 20, .inl f15)), ((r 16), .inl (cI, 20, .inl f16)), ((r 17), .inl (cI, 20, .inl f17)), ((r 18), .inl (cI, 2, .inl f18)), ((r 20), .inl (cI, 24, .inl f20)), ((r 23), .inl (cI, 2, .inl f23)), ((r 49), .inl (cI, 22, .inl f49)), (h, .inr (7, oM r i j)), ((r 14), .inl (cI, 2, .inl f14))] H := hP
      have hD : va_D A [((r 15), .inl (cI, 20, .inl f15)), ((r 16), .inl (cI, 20, .inl f16)), ((r 17), .inl (cI, 20, .inl f17)), ((r 18), .inl (cI, 2, .inl f18)), ((r 20), .inl (cI, 24, .inl f20)), ((r 23), .inl (cI, 2, .inl f23)), ((r 49), .inl (cI, 22, .inl f49)), (h, .inr (7, oM r i j)), ((r 14), .inl (cI, 2, .inl f14))] := hD
      have g_126_1 : r_126 = hof (f23 (i 13).toNatClampNeg) x1 := g_126_1
      refine lv_if_eq (tgt := 136) hx hb dX7_thing_129 (by decide) (fun c_129 => ?_) (fun c_129 => ?_)
      · have c_129 : r_126 = 0 := c_129
        have f_136_8 : iR r_126 0 0 := iR_eqL c_129 g_126_0 (iR_c (n := 0) (a := 0) (b := 0) (by decide +kernel) (by decide +kernel)) (by decide +kernel)
        refine lv_iconst (v := 0) hx hb dX7_thing_136 (by decide +kernel) ?_
        exact k_ri B hP hD hS dX7_thing_137 () [7, 8, 0, 1, 2, 3, 4, 5, 6] rfl rfl rfl (Nat.le_of_ble_eq_true rfl) (Nat.le_of_ble_eq_true rfl) trivial
      · have c_129 : ¬ r_126 = 0 := c_129
        have f_132_8 : iR r_126 1 1 := iR_neL c_129 g_126_0 (iR_c (n := 0) (a := 0) (b := 0) (by decide +kernel) (by decide +kernel)) (by decide +kernel)
        refine lv_iconst (v := 1) hx hb dX7_thing_132 (by decide +kernel) ?_
        refine lv_goto (tgt := 137) hx hb dX7_thing_133 (by decide) ?_
        exact k_ri B hP hD hS dX7_thing_137 () [7, 8, 0, 1, 2, 3, 4, 5, 6] rfl rfl rfl (Nat.le_of_ble_eq_true rfl) (Nat.le_of_ble_eq_true rfl) trivial
    · have f_138_5 : iR x2 5 5 := iR_c c_13 (by decide +kernel)
      refine lv_tableIn (off := 125) (tgt := 138) hx hb dX7_thing_13 (by rw [c_13]; decide) (by rw [c_13]; decide) (by rw [c_13]; decide +kernel) (by decide +kernel) ?_
      refine lv_iconst (v := 0) hx hb dX7_thing_138 (by decide +kernel) ?_
      have J_141 : ∀ (n_141 : Nat) (j141_L3 : Int32) (j141_L4 : Int32) (hj141_L4 : iR j141_L4 0 12) (hm_141 : (12 - j141_L4.toInt).toNat < n_141) (H : Heap) (locs : List Loc) (ls : Array Slot), va_P (dC, dI) vwCl [(h, .inr (7, oM r i j)), ((r 14), .inl (cI, 2, .inl f14)), ((r 15), .inl (cI, 20, .inl f15)), ((r 16), .inl (cI, 20, .inl f16)), ((r 17), .inl (cI, 20, .inl f17)), ((r 18), .inl (cI, 2, .inl f18)), ((r 20), .inl (cI, 24, .inl f20)), ((r 23), .inl (cI, 2, .inl f23)), ((r 49), .inl (cI, 22, .inl f49))] H → va_D A [(h, .inr (7, oM r i j)), ((r 14), .inl (cI, 2, .inl f14)), ((r 15), .inl (cI, 20, .inl f15)), ((r 16), .inl (cI, 20, .inl f16)), ((r 17), .inl (cI, 20, .inl f17)), ((r 18), .inl (cI, 2, .inl f18)), ((r 20), .inl (cI, 24, .inl f20)), ((r 23), .inl (cI, 2, .inl f23)), ((r 49), .inl (cI, 22, .inl f49))] → va_S A s.heap H locs → lv_has ls 5 [(0, .ref h), (1, .int x1), (3, .int j141_L3), (4, .int j141_L4)] → W p l e ({ frames := 2, cells := 0, slots := 0, locals := 61 }) s m args below meth c H locs 0 0 (MQ below (va_Qi (fun (r9 : Int32) (u9 : Unit) => True) (fun u => k_B (dC, dI) vwCl (tyy cI cJ cZ cM) A ((fun (u9 : Unit) => [(h, .inr (7, oM r i j)), ((r 14), .inl (cI, 2, .inl f14)), ((r 15), .inl (cI, 20, .inl f15)), ((r 16), .inl (cI, 20, .inl f16)), ((r 17), .inl (cI, 20, .inl f17)), ((r 18), .inl (cI, 2, .inl f18)), ((r 20), .inl (cI, 24, .inl f20)), ((r 23), .inl (cI, 2, .inl f23)), ((r 49), .inl (cI, 22, .inl f49))]) u)) A) args s 0 0 A) (F0 m 141 ls []) := by
        intro n_141
        induction n_141 with
        | zero => intro j141_L3 j141_L4 hj141_L4 hm_141; exact absurd hm_141 (Nat.not_lt_zero _)
        | succ n_141 ih_141 =>
          intro j141_L3 j141_L4 hj141_L4 hm_141 H locs ls hP hD hS hl
          refine lv_iload hx hb dX7_thing_141 (lv_at hl 3 rfl) ?_
          refine lv_aload_n hx hb dX7_thing_143 rfl (lv_at hl 0 rfl) ?_
          refine k_get (D := (dC, dI)) (ci := 7) (v := .ref (r 18)) (C := RX7) (T := TX7) (N := 92) hx hb hts hinX7 hown hK hP 0 rfl rfl 18 (by decide) w_6 rfl rfl dX7_thing_144 ?_
          refine lv_aload_n hx hb dX7_thing_147 rfl (lv_at hl 0 rfl) ?_
          have f_148_1 : iR (i 13) 0 1 := hI 13
          refine k_get (D := (dC, dI)) (ci := 7) (v := .int (i 13)) (C := RX7) (T := TX7) (N := 92) hx hb hts hinX7 hown hK hP 0 rfl rfl 13 (by decide) w_1 rfl rfl dX7_thing_148 ?_
          refine va_iald hx hb hK hP 5 0 rfl rfl (iR_vp f_148_1 (by decide +kernel)) dX7_thing_151 ?_
          have f_151_2 : iR (f18 (i 13).toNatClampNeg) 0 12 := hf18 _
          refine lv_icmp_ge (tgt := 179) hx hb dX7_thing_152 (by decide) (fun c_152 => ?_) (fun c_152 => ?_)
          · have c_152 : (f18 (i 13).toNatClampNeg) ≤ j141_L4 := c_152
            refine lv_iload_n hx hb dX7_thing_179 rfl (lv_at hl 2 rfl) ?_
            exact k_ri B hP hD hS dX7_thing_180 () [0, 1, 2, 3, 4, 5, 6, 7, 8] rfl rfl rfl (Nat.le_of_ble_eq_true rfl) (Nat.le_of_ble_eq_true rfl) trivial
          · have c_152 : j141_L4 < (f18 (i 13).toNatClampNeg) := i_nle c_152
            have f_155_3 : iR j141_L4 0 11 := iR_ltL c_152 hj141_L4 f_151_2 (by decide +kernel)
            have f_155_4 : iR (f18 (i 13).toNatClampNeg) 1 12 := iR_ltR c_152 hj141_L4 f_151_2 (by decide +kernel)
            refine lv_iload_n hx hb dX7_thing_155 rfl (lv_at hl 2 rfl) ?_
            refine lv_aload_n hx hb dX7_thing_156 rfl (lv_at hl 0 rfl) ?_
            refine lv_iload hx hb dX7_thing_157 (lv_at hl 3 rfl) ?_
            refine k_ci (wc := [(h, .inr (7, oM r i j)), ((r 20), .inl (cI, 24, .inl f20))]) (wr := [((r 14), .inl (cI, 2, .inl f14)), ((r 15), .inl (cI, 20, .inl f15)), ((r 16), .inl (cI, 20, .inl f16)), ((r 17), .inl (cI, 20, .inl f17)), ((r 18), .inl (cI, 2, .inl f18)), ((r 23), .inl (cI, 2, .inl f23)), ((r 49), .inl (cI, 22, .inl f49))]) (fun hPc hDc hFc => va_runV (As := [.int j141_L4]) (rest := [.int j141_L3]) ⟨hx, hb, hml, hown, hts⟩ (s_X7_givesOf_v0 l dC dI cI cJ cZ cM h r i j j141_L4 f20 f_155_3 hI hf20 H.size) (cwV 1 hts gX7_thing_X7_givesOf rfl rfl rfl (by decide +kernel) ⟨(Nat.le_of_ble_eq_true rfl), (Nat.le_of_ble_eq_true rfl)⟩) (k_pV hPc hDc hK hN hC hS hFc hP (q0 := 0) (ci := 7) rfl rfl) rfl rfl hl.1 rfl (lv_room (Nat.le_of_ble_eq_true rfl)) dX7_thing_159 ⟨(Nat.le_of_ble_eq_true rfl), (Nat.le_of_ble_eq_true rfl)⟩) hP hD hS hA [0, 6] [1, 2, 3, 4, 5, 7, 8] rfl rfl rfl rfl (by decide) (fun _ => rfl) 0 0 rfl rfl (fun r_159 u_159 H locs hw hP hD hS => ?_)
            obtain ⟨g_159_0, g_159_1⟩ := hw
            have hP : va_P (dC, dI) vwCl [((r 14), .inl (cI, 2, .inl f14)), ((r 15), .inl (cI, 20, .inl f15)), ((r 16), .inl (cI, 20, .inl f16)), ((r 17), .inl (cI, 20, .inl f17)), ((r 18), .inl (cI, 2, .inl f18)), ((r 23), .inl (cI, 2, .inl f23)), ((r 49), .inl (cI, 22, .inl f49)), (h, .inr (7, oM r i j)), ((r 20), .inl (cI, 24, .inl f20))] H := hP
            have hD : va_D A [((r 14), .inl (cI, 2, .inl f14)), ((r 15), .inl (cI, 20, .inl f15)), ((r 16), .inl (cI, 20, .inl f16)), ((r 17), .inl (cI, 20, .inl f17)), ((r 18), .inl (cI, 2, .inl f18)), ((r 23), .inl (cI, 2, .inl f23)), ((r 49), .inl (cI, 22, .inl f49)), (h, .inr (7, oM r i j)), ((r 20), .inl (cI, 24, .inl f20))] := hD
            have g_159_1 : r_159 = f20 (12 * (i 13).toNatClampNeg + j141_L4.toNatClampNeg) := g_159_1
            refine lv_iload_n hx hb dX7_thing_162 rfl (lv_at hl 1 rfl) ?_
            have J_171 : ∀ (j171_S0 : Int32) (hj171_S0 : iR j171_S0 0 1) (H : Heap) (locs : List Loc) (ls : Array Slot), va_P (dC, dI) vwCl [(h, .inr (7, oM r i j)), ((r 14), .inl (cI, 2, .inl f14)), ((r 15), .inl (cI, 20, .inl f15)), ((r 16), .inl (cI, 20, .inl f16)), ((r 17), .inl (cI, 20, .inl f17)), ((r 18), .inl (cI, 2, .inl f18)), ((r 20), .inl (cI, 24, .inl f20)), ((r 23), .inl (cI, 2, .inl f23)), ((r 49), .inl (cI, 22, .inl f49))] H → va_D A [(h, .inr (7, oM r i j)), ((r 14), .inl (cI, 2, .inl f14)), ((r 15), .inl (cI, 20, .inl f15)), ((r 16), .inl (cI, 20, .inl f16)), ((r 17), .inl (cI, 20, .inl f17)), ((r 18), .inl (cI, 2, .inl f18)), ((r 20), .inl (cI, 24, .inl f20)), ((r 23), .inl (cI, 2, .inl f23)), ((r 49), .inl (cI, 22, .inl f49))] → va_S A s.heap H locs → lv_has ls 5 [(0, .ref h), (1, .int x1), (4, .int j141_L4)] → W p l e ({ frames := 2, cells := 0, slots := 0, locals := 61 }) s m args below meth c H locs 0 0 (MQ below (va_Qi (fun (r9 : Int32) (u9 : Unit) => True) (fun u => k_B (dC, dI) vwCl (tyy cI cJ cZ cM) A ((fun (u9 : Unit) => [(h, .inr (7, oM r i j)), ((r 14), .inl (cI, 2, .inl f14)), ((r 15), .inl (cI, 20, .inl f15)), ((r 16), .inl (cI, 20, .inl f16)), ((r 17), .inl (cI, 20, .inl f17)), ((r 18), .inl (cI, 2, .inl f18)), ((r 20), .inl (cI, 24, .inl f20)), ((r 23), .inl (cI, 2, .inl f23)), ((r 49), .inl (cI, 22, .inl f49))]) u)) A) args s 0 0 A) (F0 m 171 ls [.int j171_S0, .int j141_L3]) := by
              intro j171_S0 hj171_S0 H locs ls hP hD hS hl
              refine lv_iadd hx hb dX7_thing_171 ?_
              refine lv_topi (fun y_171 ey_171 => ?_)
              refine lv_istore_n (lv' := [(3, .int y_171), (0, .ref h), (1, .int x1), (4, .int j141_L4)]) hx hb dX7_thing_172 rfl hl (by decide) rfl (fun ls hl => ?_)
              obtain ⟨y_173, ey_173⟩ : ∃ y : Int32, y = j141_L4 + 1 := ⟨_, rfl⟩
              refine lv_iinc (v := y_173) (lv' := [(4, .int y_173), (3, .int y_171), (0, .ref h), (1, .int x1)]) hx hb dX7_thing_173 hl (k := 3) rfl ey_173.symm (by decide) rfl (fun ls hl => ?_)
              have f_173_1 : iR y_173 1 12 := iR_add ey_173 f_155_3 (iR_c (n := 1) (a := 1) (b := 1) (by decide +kernel) (by decide +kernel)) (by decide +kernel)
              refine lv_goto (tgt := 141) hx hb dX7_thing_176 (by decide) ?_
              exact ih_141 y_171 y_173 (iR_w f_173_1 (by decide +kernel)) (m_up (B := 12) hm_141 ey_173 f_155_3 (by decide +kernel)) H locs ls hP hD hS (lv_sub hl [2, 3, 1, 0] rfl)
            refine lv_icmp_ne (tgt := 170) hx hb dX7_thing_163 (by decide) (fun c_163 => ?_) (fun c_163 => ?_)
            · have c_163 : ¬ r_159 = x1 := c_163
              refine lv_iconst (v := 0) hx hb dX7_thing_170 (by decide +kernel) ?_
              exact J_171 0 (iR_c (n := 0) (a := 0) (b := 1) (by decide +kernel) (by decide +kernel)) H locs ls (hP.sub [7, 0, 1, 2, 3, 4, 8, 5, 6] rfl) (hD.sub [7, 0, 1, 2, 3, 4, 8, 5, 6] (by decide +kernel) rfl) hS (lv_sub hl [0, 1, 3] rfl)
            · have c_163 : r_159 = x1 := c_163
              refine lv_iconst (v := 1) hx hb dX7_thing_166 (by decide +kernel) ?_
              refine lv_goto (tgt := 171) hx hb dX7_thing_167 (by decide) ?_
              exact J_171 1 (iR_c (n := 1) (a := 0) (b := 1) (by decide +kernel) (by decide +kernel)) H locs ls (hP.sub [7, 0, 1, 2, 3, 4, 8, 5, 6] rfl) (hD.sub [7, 0, 1, 2, 3, 4, 8, 5, 6] (by decide +kernel) rfl) hS (lv_sub hl [0, 1, 3] rfl)
      refine lv_istore (lv' := [(4, .int 0), (3, .int 0), (0, .ref h), (1, .int x1), (2, .int x2)]) hx hb dX7_thing_139 hl (by decide) rfl (fun ls hl => ?_)
      exact J_141 _ 0 0 (iR_c (n := 0) (a := 0) (b := 12) (by decide +kernel) (by decide +kernel)) (Nat.lt_succ_self _) H locs ls (hP.sub [7, 8, 0, 1, 2, 3, 4, 5, 6] rfl) (hD.sub [7, 8, 0, 1, 2, 3, 4, 5, 6] (by decide +kernel) rfl) hS (lv_sub hl [2, 3, 1, 0] rfl)
    · refine lv_tableOut (tgt := 181) hx hb dX7_thing_13 (by omega) (by decide +kernel) ?_
      refine lv_iconst (v := (-1)) hx hb dX7_thing_181 (by decide +kernel) ?_
      exact k_ri B hP hD hS dX7_thing_182 () [7, 8, 0, 1, 2, 3, 4, 5, 6] rfl rfl rfl (Nat.le_of_ble_eq_true rfl) (Nat.le_of_ble_eq_true rfl) trivial
  · have c_5 : r_2 = 0 := c_5
    have f_8_1 : iR r_2 0 0 := iR_eqL c_5 g_2_0 (iR_c (n := 0) (a := 0) (b := 0) (by decide +kernel) (by decide +kernel)) (by decide +kernel)
    refine lv_iconst (v := (-1)) hx hb dX7_thing_8 (by decide +kernel) ?_
    exact k_ri B hP hD hS dX7_thing_9 () [7, 8, 0, 1, 2, 3, 4, 5, 6] rfl rfl rfl (Nat.le_of_ble_eq_true rfl) (Nat.le_of_ble_eq_true rfl) trivial
set_option maxHeartbeats 8000000 in
set_option maxRecDepth 100000 in
theorem s_X7_isWish_v0 (l : Launch) (dC : Nat → ClassId) (dI : Nat → Nat → Nat) (cI cJ cZ cM : ClassId) (h : Nat) (r : Nat → Nat) (i : Nat → Int32) (j : Nat → Int64) (x1 : Int32) (f18 : Nat → Int32) (hI : mR i) (hf18 : aR f18 0 12) : k_Mi l yX7_isWish wsX7_isWish ({ frames := 1, cells := 0, slots := 0, locals := 40 }) (dC, dI) vwCl (tyy cI cJ cZ cM) [(h, .inr (7, oM r i j)), ((r 18), .inl (cI, 2, .inl f18))] [.ref h, .int x1] 0 0 (fun (u9 : Unit) => [(h, .inr (7, oM r i j)), ((r 18), .inl (cI, 2, .inl f18))]) (fun (r9 : Int32) (u9 : Unit) => (iR r9 0 1) ∧ ((r9 = 0) ∨ ((0 ≤ x1) ∧ (x1 < (f18 (i 13).toNatClampNeg))))) := by
  refine fun sz => k_enter (cc := cX7_isWish) (maxL := 2) (ret := some (.boolean)) (Qc := fun A => va_Qi (fun (r9 : Int32) (u9 : Unit) => (iR r9 0 1) ∧ ((r9 = 0) ∨ ((0 ≤ x1) ∧ (x1 < (f18 (i 13).toNatClampNeg))))) (fun u => k_B (dC, dI) vwCl (tyy cI cJ cZ cM) A ((fun (u9 : Unit) => [(h, .inr (7, oM r i j)), ((r 18), .inl (cI, 2, .inl f18))]) u)) A) sz (by decide +kernel) rfl (Nat.le_of_ble_eq_true rfl) (fun p e s m args below meth c A ls H locs B hP hD hS hl => ?_)
  obtain ⟨hx, hb, hml, hown, hts, hr, hlk, hnm, hK, hA, hN, hC⟩ := id B
  have hown : s.vm.findClass RX7 = some m.cls := hown
  have hl : lv_has ls 2 [(0, .ref h), (1, .int x1)] := hl
  have w_0 : (Cond.fieldLink RX7 66 "WishSeaModel" "wishes" "[I").before args s = true := hts _ (List.mem_of_getElem? (i := 1) rfl)
  have w_1 : (Cond.fieldLink RX7 51 "WishSeaModel" "bank" "I").before args s = true := hts _ (List.mem_of_getElem? (i := 2) rfl)
  have hinX7 : ∀ w ∈ u_ws RX7 TX7 92, w ∈ wsX7_isWish := fun _ h => List.mem_cons_of_mem _ (List.mem_append_right _ h)
  refine lv_iload_n hx hb dX7_isWish_0 rfl (lv_at hl 1 rfl) ?_
  have J_21 : ∀   (H : Heap) (locs : List Loc) (ls : Array Slot), va_P (dC, dI) vwCl [(h, .inr (7, oM r i j)), ((r 18), .inl (cI, 2, .inl f18))] H → va_D A [(h, .inr (7, oM r i j)), ((r 18), .inl (cI, 2, .inl f18))] → va_S A s.heap H locs → lv_has ls 2 [] → W p l e ({ frames := 1, cells := 0, slots := 0, locals := 40 }) s m args below meth c H locs 0 0 (MQ below (va_Qi (fun (r9 : Int32) (u9 : Unit) => (iR r9 0 1) ∧ ((r9 = 0) ∨ ((0 ≤ x1) ∧ (x1 < (f18 (i 13).toNatClampNeg))))) (fun u => k_B (dC, dI) vwCl (tyy cI cJ cZ cM) A ((fun (u9 : Unit) => [(h, .inr (7, oM r i j)), ((r 18), .inl (cI, 2, .inl f18))]) u)) A) args s 0 0 A) (F0 m 21 ls []) := by
    intro   H locs ls hP hD hS hl
    refine lv_iconst (v := 0) hx hb dX7_isWish_21 (by decide +kernel) ?_
    exact k_ri B hP hD hS dX7_isWish_22 () [0, 1] rfl rfl rfl (Nat.le_of_ble_eq_true rfl) (Nat.le_of_ble_eq_true rfl) ⟨(show iR 0 0 1 from (iR_c (n := 0) (a := 0) (b := 1) (by decide +kernel) (by decide +kernel))), (show (0 = 0) ∨ ((0 ≤ x1) ∧ (x1 < (f18 (i 13).toNatClampNeg))) from (Or.inl rfl))⟩
  refine lv_if_lt (tgt := 21) hx hb dX7_isWish_1 (by decide) (fun c_1 => ?_) (fun c_1 => ?_)
  · have c_1 : x1 < 0 := c_1
    have f_21_1 : iR x1 (-2147483648) (-1) := iR_ltL c_1 (iR_top _) (iR_c (n := 0) (a := 0) (b := 0) (by decide +kernel) (by decide +kernel)) (by decide +kernel)
    exact J_21   H locs ls hP hD hS (lv_sub hl [] rfl)
  · have c_1 : 0 ≤ x1 := i_nlt c_1
    have f_4_1 : iR x1 0 2147483647 := iR_leR c_1 (iR_c (n := 0) (a := 0) (b := 0) (by decide +kernel) (by decide +kernel)) (iR_top _) (by decide +kernel)
    refine lv_iload_n hx hb dX7_isWish_4 rfl (lv_at hl 1 rfl) ?_
    refine lv_aload_n hx hb dX7_isWish_5 rfl (lv_at hl 0 rfl) ?_
    refine k_get (D := (dC, dI)) (ci := 7) (v := .ref (r 18)) (C := RX7) (T := TX7) (N := 92) hx hb hts hinX7 hown hK hP 0 rfl rfl 18 (by decide) w_0 rfl rfl dX7_isWish_6 ?_
    refine lv_aload_n hx hb dX7_isWish_9 rfl (lv_at hl 0 rfl) ?_
    have f_10_2 : iR (i 13) 0 1 := hI 13
    refine k_get (D := (dC, dI)) (ci := 7) (v := .int (i 13)) (C := RX7) (T := TX7) (N := 92) hx hb hts hinX7 hown hK hP 0 rfl rfl 13 (by decide) w_1 rfl rfl dX7_isWish_10 ?_
    refine va_iald hx hb hK hP 1 0 rfl rfl (iR_vp f_10_2 (by decide +kernel)) dX7_isWish_13 ?_
    have f_13_3 : iR (f18 (i 13).toNatClampNeg) 0 12 := hf18 _
    refine lv_icmp_ge (tgt := 21) hx hb dX7_isWish_14 (by decide) (fun c_14 => ?_) (fun c_14 => ?_)
    · have c_14 : (f18 (i 13).toNatClampNeg) ≤ x1 := c_14
      exact J_21   H locs ls hP hD hS (lv_sub hl [] rfl)
    · have c_14 : x1 < (f18 (i 13).toNatClampNeg) := i_nle c_14
      have f_17_4 : iR x1 0 11 := iR_ltL c_14 f_4_1 f_13_3 (by decide +kernel)
      have f_17_5 : iR (f18 (i 13).toNatClampNeg) 1 12 := iR_ltR c_14 f_4_1 f_13_3 (by decide +kernel)
      refine lv_iconst (v := 1) hx hb dX7_isWish_17 (by decide +kernel) ?_
      refine lv_goto (tgt := 22) hx hb dX7_isWish_18 (by decide) ?_
      exact k_ri B hP hD hS dX7_isWish_22 () [0, 1] rfl rfl rfl (Nat.le_of_ble_eq_true rfl) (Nat.le_of_ble_eq_true rfl) ⟨(show iR 1 0 1 from (iR_c (n := 1) (a := 0) (b := 1) (by decide +kernel) (by decide +kernel))), (show (1 = 0) ∨ ((0 ≤ x1) ∧ (x1 < (f18 (i 13).toNatClampNeg))) from (Or.inr ⟨c_1, c_14⟩))⟩
set_option maxHeartbeats 8000000 in
set_option maxRecDepth 100000 in
theorem s_X7_whyNot_v0 (l : Launch) (dC : Nat → ClassId) (dI : Nat → Nat → Nat) (cI cJ cZ cM : ClassId) (h : Nat) (r : Nat → Nat) (i : Nat → Int32) (j : Nat → Int64) (x1 : Int32) (f14 : Nat → Int32) (f15 : Nat → Int32) (f16 : Nat → Int32) (f19 : Nat → Int32) (f20 : Nat → Int32) (f21 : Nat → Int32) (f22 : Nat → Int32) (f26 : Nat → Int32) (f27 : Nat → Int32) (f28 : Nat → Int32) (f29 : Nat → Int32) (f32 : Nat → Int32) (f33 : Nat → Int32) (g61 : Nat → Int64) (hx1 : iR x1 0 11) (hI : mR i) (hf14 : aR f14 0 10) (hf15 : aR f15 0 9999) (hf20 : aR f20 0 9) (hf26 : aR f26 (-1) 1600) (hf27 : aR f27 0 1600) (hf28 : aR f28 (-1) 1600) (hf29 : aR f29 0 1600) (hsg26 : SEG f26 f27 f32 (i 13).toNatClampNeg 1600) (hsg28 : SEG f28 f29 f32 (i 13).toNatClampNeg 1600) : k_Mi l yX7_whyNot wsX7_whyNot ({ frames := 6, cells := 0, slots := 0, locals := 151 }) (dC, dI) vwCl (tyy cI cJ cZ cM) [(h, .inr (7, oM r i j)), ((r 14), .inl (cI, 2, .inl f14)), ((r 15), .inl (cI, 20, .inl f15)), ((r 16), .inl (cI, 20, .inl f16)), ((r 19), .inl (cI, 24, .inl f19)), ((r 20), .inl (cI, 24, .inl f20)), ((r 21), .inl (cI, 24, .inl f21)), ((r 22), .inl (cI, 24, .inl f22)), ((r 26), .inl (cI, 2, .inl f26)), ((r 27), .inl (cI, 2, .inl f27)), ((r 28), .inl (cI, 2, .inl f28)), ((r 29), .inl (cI, 2, .inl f29)), ((r 32), .inl (cI, 3200, .inl f32)), ((r 33), .inl (cI, 3200, .inl f33)), ((r 61), .inl (cJ, 500, .inr (.inl g61)))] [.ref h, .int x1] 0 0 (fun (u9 : SU) => [(h, .inr (7, oM r (upd i 66 (u9.1 0)) j)), ((r 14), .inl (cI, 2, .inl f14)), ((r 15), .inl (cI, 20, .inl f15)), ((r 16), .inl (cI, 20, .inl f16)), ((r 19), .inl (cI, 24, .inl f19)), ((r 20), .inl (cI, 24, .inl f20)), ((r 21), .inl (cI, 24, .inl f21)), ((r 22), .inl (cI, 24, .inl f22)), ((r 26), .inl (cI, 2, .inl f26)), ((r 27), .inl (cI, 2, .inl f27)), ((r 28), .inl (cI, 2, .inl f28)), ((r 29), .inl (cI, 2, .inl f29)), ((r 32), .inl (cI, 3200, .inl f32)), ((r 33), .inl (cI, 3200, .inl f33)), ((r 61), .inl (cJ, 500, .inr (.inl (u9.2.2.2.1 0))))]) (fun (r9 : Int32) (u9 : SU) => (iR r9 0 5) ∧ (iR (u9.1 0) (-1) 11) ∧ (r9 = myf f14 f15 f16 f19 f20 f21 f22 f26 f27 f28 f29 f32 f33 (i 13) (i 62) (i 63) (i 64) (i 65) x1)) := by
  refine fun sz => k_enter (cc := cX7_whyNot) (maxL := 3) (ret := some (.int)) (Qc := fun A => va_Qi (fun (r9 : Int32) (u9 : SU) => (iR r9 0 5) ∧ (iR (u9.1 0) (-1) 11) ∧ (r9 = myf f14 f15 f16 f19 f20 f21 f22 f26 f27 f28 f29 f32 f33 (i 13) (i 62) (i 63) (i 64) (i 65) x1)) (fun u => k_B (dC, dI) vwCl (tyy cI cJ cZ cM) A ((fun (u9 : SU) => [(h, .inr (7, oM r (upd i 66 (u9.1 0)) j)), ((r 14), .inl (cI, 2, .inl f14)), ((r 15), .inl (cI, 20, .inl f15)), ((r 16), .inl (cI, 20, .inl f16)), ((r 19), .inl (cI, 24, .inl f19)), ((r 20), .inl (cI, 24, .inl f20)), ((r 21), .inl (cI, 24, .inl f21)), ((r 22), .inl (cI, 24, .inl f22)), ((r 26), .inl (cI, 2, .inl f26)), ((r 27), .inl (cI, 2, .inl f27)), ((r 28), .inl (cI, 2, .inl f28)), ((r 29), .inl (cI, 2, .inl f29)), ((r 32), .inl (cI, 3200, .inl f32)), ((r 33), .inl (cI, 3200, .inl f33)), ((r 61), .inl (cJ, 500, .inr (.inl (u9.2.2.2.1 0))))]) u)) A) sz (by decide +kernel) rfl (Nat.le_of_ble_eq_true rfl) (fun p e s m args below meth c A ls H locs B hP hD hS hl => ?_)
  obtain ⟨hx, hb, hml, hown, hts, hr, hlk, hnm, hK, hA, hN, hC⟩ := id B
  have hown : s.vm.findClass RX7 = some m.cls := hown
  have hl : lv_has ls 3 [(0, .ref h), (1, .int x1)] := hl
  have w_0 : (Cond.fieldLink RX7 51 "WishSeaModel" "bank" "I").before args s = true := hts _ (List.mem_of_getElem? (i := 1) rfl)
  have w_1 : (Cond.fieldLink RX7 75 "WishSeaModel" "wishNeeds" "[I").before args s = true := hts _ (List.mem_of_getElem? (i := 2) rfl)
  have w_2 : (Cond.fieldLink RX7 201 "WishSeaModel" "askedHad" "I").before args s = true := hts _ (List.mem_of_getElem? (i := 3) rfl)
  have w_3 : (Cond.fieldLink RX7 78 "WishSeaModel" "wishUses" "[I").before args s = true := hts _ (List.mem_of_getElem? (i := 4) rfl)
  have hinX7 : ∀ w ∈ u_ws RX7 TX7 92, w ∈ wsX7_whyNot := fun _ h => List.mem_cons_of_mem _ (List.mem_append_right _ h)
  refine lv_bipush (v := 12) hx hb dX7_whyNot_0 (by decide +kernel) ?_
  refine lv_aload_n hx hb dX7_whyNot_2 rfl (lv_at hl 0 rfl) ?_
  have f_3_1 : iR (i 13) 0 1 := hI 13
  refine k_get (D := (dC, dI)) (ci := 7) (v := .int (i 13)) (C := RX7) (T := TX7) (N := 92) hx hb hts hinX7 hown hK hP 0 rfl rfl 13 (by decide) w_0 rfl rfl dX7_whyNot_3 ?_
  refine lv_imul hx hb dX7_whyNot_6 ?_
  refine lv_topi (fun y_6 ey_6 => ?_)
  have xy_6 : y_6.toInt = 12 * (i 13).toInt := i_mul ey_6 (iR_c (n := 12) (a := 12) (b := 12) (by decide +kernel) (by decide +kernel)) f_3_1 (by decide +kernel)
  have f_6_2 : iR y_6 0 12 := iR_mul ey_6 (iR_c (n := 12) (a := 12) (b := 12) (by decide +kernel) (by decide +kernel)) f_3_1 (by decide +kernel)
  refine lv_iload_n hx hb dX7_whyNot_7 rfl (lv_at hl 1 rfl) ?_
  refine lv_iadd hx hb dX7_whyNot_8 ?_
  refine lv_topi (fun y_8 ey_8 => ?_)
  have xy_8 : y_8.toInt = y_6.toInt + x1.toInt := i_add ey_8 f_6_2 hx1 (by decide +kernel)
  have f_8_3 : iR y_8 0 23 := iR_add ey_8 f_6_2 hx1 (by decide +kernel)
  refine lv_istore_n (lv' := [(2, .int y_8), (0, .ref h), (1, .int x1)]) hx hb dX7_whyNot_9 rfl hl (by decide) rfl (fun ls hl => ?_)
  refine lv_aload_n hx hb dX7_whyNot_10 rfl (lv_at hl 1 rfl) ?_
  refine k_get (D := (dC, dI)) (ci := 7) (v := .ref (r 21)) (C := RX7) (T := TX7) (N := 92) hx hb hts hinX7 hown hK hP 0 rfl rfl 21 (by decide) w_1 rfl rfl dX7_whyNot_11 ?_
  refine lv_iload_n hx hb dX7_whyNot_14 rfl (lv_at hl 0 rfl) ?_
  refine va_iald hx hb hK hP 6 0 rfl rfl (iR_vp f_8_3 (by decide +kernel)) dX7_whyNot_15 ?_
  refine lv_aload_n hx hb dX7_whyNot_16 rfl (lv_at hl 1 rfl) ?_
  refine k_get (D := (dC, dI)) (ci := 7) (v := .int (i 62)) (C := RX7) (T := TX7) (N := 92) hx hb hts hinX7 hown hK hP 0 rfl rfl 62 (by decide) w_2 rfl rfl dX7_whyNot_17 ?_
  refine lv_iconst (v := (-1)) hx hb dX7_whyNot_20 (by decide +kernel) ?_
  refine lv_ixor hx hb dX7_whyNot_21 ?_
  refine lv_topi (fun y_21 ey_21 => ?_)
  refine lv_iand hx hb dX7_whyNot_22 ?_
  refine lv_topi (fun y_22 ey_22 => ?_)
  refine lv_if_eq (tgt := 28) hx hb dX7_whyNot_23 (by decide) (fun c_23 => ?_) (fun c_23 => ?_)
  · have c_23 : y_22 = 0 := c_23
    have f_28_4 : iR y_22 0 0 := iR_eqL c_23 (iR_top _) (iR_c (n := 0) (a := 0) (b := 0) (by decide +kernel) (by decide +kernel)) (by decide +kernel)
    refine lv_aload_n hx hb dX7_whyNot_28 rfl (lv_at hl 1 rfl) ?_
    refine k_get (D := (dC, dI)) (ci := 7) (v := .ref (r 22)) (C := RX7) (T := TX7) (N := 92) hx hb hts hinX7 hown hK hP 0 rfl rfl 22 (by decide) w_3 rfl rfl dX7_whyNot_29 ?_
    refine lv_iload_n hx hb dX7_whyNot_32 rfl (lv_at hl 0 rfl) ?_
    refine va_iald hx hb hK hP 7 0 rfl rfl (iR_vp f_8_3 (by decide +kernel)) dX7_whyNot_33 ?_
    refine lv_aload_n hx hb dX7_whyNot_34 rfl (lv_at hl 1 rfl) ?_
    refine k_get (D := (dC, dI)) (ci := 7) (v := .int (i 62)) (C := RX7) (T := TX7) (N := 92) hx hb hts hinX7 hown hK hP 0 rfl rfl 62 (by decide) w_2 rfl rfl dX7_whyNot_35 ?_
    refine lv_iconst (v := (-1)) hx hb dX7_whyNot_38 (by decide +kernel) ?_
    refine lv_ixor hx hb dX7_whyNot_39 ?_
    refine lv_topi (fun y_39 ey_39 => ?_)
    refine lv_iand hx hb dX7_whyNot_40 ?_
    refine lv_topi (fun y_40 ey_40 => ?_)
    refine lv_if_eq (tgt := 46) hx hb dX7_whyNot_41 (by decide) (fun c_41 => ?_) (fun c_41 => ?_)
    · have c_41 : y_40 = 0 := c_41
      have f_46_5 : iR y_40 0 0 := iR_eqL c_41 (iR_top _) (iR_c (n := 0) (a := 0) (b := 0) (by decide +kernel) (by decide +kernel)) (by decide +kernel)
      refine lv_aload_n hx hb dX7_whyNot_46 rfl (lv_at hl 1 rfl) ?_
      refine k_get (D := (dC, dI)) (ci := 7) (v := .int (i 62)) (C := RX7) (T := TX7) (N := 92) hx hb hts hinX7 hown hK hP 0 rfl rfl 62 (by decide) w_2 rfl rfl dX7_whyNot_47 ?_
      refine lv_aload_n hx hb dX7_whyNot_50 rfl (lv_at hl 1 rfl) ?_
      refine lv_iload_n hx hb dX7_whyNot_51 rfl (lv_at hl 2 rfl) ?_
      refine k_ci (wc := [(h, .inr (7, oM r i j)), ((r 20), .inl (cI, 24, .inl f20))]) (wr := [((r 14), .inl (cI, 2, .inl f14)), ((r 15), .inl (cI, 20, .inl f15)), ((r 16), .inl (cI, 20, .inl f16)), ((r 19), .inl (cI, 24, .inl f19)), ((r 21), .inl (cI, 24, .inl f21)), ((r 22), .inl (cI, 24, .inl f22)), ((r 26), .inl (cI, 2, .inl f26)), ((r 27), .inl (cI, 2, .inl f27)), ((r 28), .inl (cI, 2, .inl f28)), ((r 29), .inl (cI, 2, .inl f29)), ((r 32), .inl (cI, 3200, .inl f32)), ((r 33), .inl (cI, 3200, .inl f33)), ((r 61), .inl (cJ, 500, .inr (.inl g61)))]) (fun hPc hDc hFc => va_runV (As := [.int x1]) (rest := [.int (i 62)]) ⟨hx, hb, hml, hown, hts⟩ (s_X7_givesOf_v0 l dC dI cI cJ cZ cM h r i j x1 f20 hx1 hI hf20 H.size) (cwV 1 hts gX7_whyNot_X7_givesOf rfl rfl rfl (by decide +kernel) ⟨(Nat.le_of_ble_eq_true rfl), (Nat.le_of_ble_eq_true rfl)⟩) (k_pV hPc hDc hK hN hC hS hFc hP (q0 := 0) (ci := 7) rfl rfl) rfl rfl hl.1 rfl (lv_room (Nat.le_of_ble_eq_true rfl)) dX7_whyNot_52 ⟨(Nat.le_of_ble_eq_true rfl), (Nat.le_of_ble_eq_true rfl)⟩) hP hD hS hA [0, 5] [1, 2, 3, 4, 6, 7, 8, 9, 10, 11, 12, 13, 14] rfl rfl rfl rfl (by decide) (fun _ => rfl) 0 0 rfl rfl (fun r_52 u_52 H locs hw hP hD hS => ?_)
      obtain ⟨g_52_0, g_52_1⟩ := hw
      have hP : va_P (dC, dI) vwCl [((r 14), .inl (cI, 2, .inl f14)), ((r 15), .inl (cI, 20, .inl f15)), ((r 16), .inl (cI, 20, .inl f16)), ((r 19), .inl (cI, 24, .inl f19)), ((r 21), .inl (cI, 24, .inl f21)), ((r 22), .inl (cI, 24, .inl f22)), ((r 26), .inl (cI, 2, .inl f26)), ((r 27), .inl (cI, 2, .inl f27)), ((r 28), .inl (cI, 2, .inl f28)), ((r 29), .inl (cI, 2, .inl f29)), ((r 32), .inl (cI, 3200, .inl f32)), ((r 33), .inl (cI, 3200, .inl f33)), ((r 61), .inl (cJ, 500, .inr (.inl g61))), (h, .inr (7, oM r i j)), ((r 20), .inl (cI, 24, .inl f20))] H := hP
      have hD : va_D A [((r 14), .inl (cI, 2, .inl f14)), ((r 15), .inl (cI, 20, .inl f15)), ((r 16), .inl (cI, 20, .inl f16)), ((r 19), .inl (cI, 24, .inl f19)), ((r 21), .inl (cI, 24, .inl f21)), ((r 22), .inl (cI, 24, .inl f22)), ((r 26), .inl (cI, 2, .inl f26)), ((r 27), .inl (cI, 2, .inl f27)), ((r 28), .inl (cI, 2, .inl f28)), ((r 29), .inl (cI, 2, .inl f29)), ((r 32), .inl (cI, 3200, .inl f32)), ((r 33), .inl (cI, 3200, .inl f33)), ((r 61), .inl (cJ, 500, .inr (.inl g61))), (h, .inr (7, oM r i j)), ((r 20), .inl (cI, 24, .inl f20))] := hD
      have g_52_1 : r_52 = f20 (12 * (i 13).toNatClampNeg + x1.toNatClampNeg) := g_52_1
      refine k_ci (wc := []) (wr := [((r 14), .inl (cI, 2, .inl f14)), ((r 15), .inl (cI, 20, .inl f15)), ((r 16), .inl (cI, 20, .inl f16)), ((r 19), .inl (cI, 24, .inl f19)), ((r 21), .inl (cI, 24, .inl f21)), ((r 22), .inl (cI, 24, .inl f22)), ((r 26), .inl (cI, 2, .inl f26)), ((r 27), .inl (cI, 2, .inl f27)), ((r 28), .inl (cI, 2, .inl f28)), ((r 29), .inl (cI, 2, .inl f29)), ((r 32), .inl (cI, 3200, .inl f32)), ((r 33), .inl (cI, 3200, .inl f33)), ((r 61), .inl (cJ, 500, .inr (.inl g61))), (h, .inr (7, oM r i j)), ((r 20), .inl (cI, 24, .inl f20))]) (fun hPc hDc hFc => va_runS (As := [.int (i 62), .int r_52]) (rest := []) ⟨hx, hb, hml, hown, hts⟩ (s_X7_holds_v0 l dC dI cI cJ cZ cM (i 62) r_52 H.size) (va_cwS 2 hts gX7_whyNot_X7_holds rfl rfl rfl (by decide +kernel) ⟨(Nat.le_of_ble_eq_true rfl), (Nat.le_of_ble_eq_true rfl)⟩) (k_pS hPc hDc hK hN hC hS hFc) rfl rfl hl.1 rfl (lv_room (Nat.le_of_ble_eq_true rfl)) dX7_whyNot_55 ⟨(Nat.le_of_ble_eq_true rfl), (Nat.le_of_ble_eq_true rfl)⟩) hP hD hS hA [] [0, 1, 2, 3, 4, 5, 6, 7, 8, 9, 10, 11, 12, 13, 14] rfl rfl rfl rfl (by decide) (fun _ => rfl) 0 0 rfl rfl (fun r_55 u_55 H locs hw hP hD hS => ?_)
      obtain ⟨g_55_0, g_55_1⟩ := hw
      have hP : va_P (dC, dI) vwCl [((r 14), .inl (cI, 2, .inl f14)), ((r 15), .inl (cI, 20, .inl f15)), ((r 16), .inl (cI, 20, .inl f16)), ((r 19), .inl (cI, 24, .inl f19)), ((r 21), .inl (cI, 24, .inl f21)), ((r 22), .inl (cI, 24, .inl f22)), ((r 26), .inl (cI, 2, .inl f26)), ((r 27), .inl (cI, 2, .inl f27)), ((r 28), .inl (cI, 2, .inl f28)), ((r 29), .inl (cI, 2, .inl f29)), ((r 32), .inl (cI, 3200, .inl f32)), ((r 33), .inl (cI, 3200, .inl f33)), ((r 61), .inl (cJ, 500, .inr (.inl g61))), (h, .inr (7, oM r i j)), ((r 20), .inl (cI, 24, .inl f20))] H := hP
      have hD : va_D A [((r 14), .inl (cI, 2, .inl f14)), ((r 15), .inl (cI, 20, .inl f15)), ((r 16), .inl (cI, 20, .inl f16)), ((r 19), .inl (cI, 24, .inl f19)), ((r 21), .inl (cI, 24, .inl f21)), ((r 22), .inl (cI, 24, .inl f22)), ((r 26), .inl (cI, 2, .inl f26)), ((r 27), .inl (cI, 2, .inl f27)), ((r 28), .inl (cI, 2, .inl f28)), ((r 29), .inl (cI, 2, .inl f29)), ((r 32), .inl (cI, 3200, .inl f32)), ((r 33), .inl (cI, 3200, .inl f33)), ((r 61), .inl (cJ, 500, .inr (.inl g61))), (h, .inr (7, oM r i j)), ((r 20), .inl (cI, 24, .inl f20))] := hD
      have g_55_1 : r_55 = hof (i 62) r_52 := g_55_1
      refine lv_if_eq (tgt := 63) hx hb dX7_whyNot_58 (by decide) (fun c_58 => ?_) (fun c_58 => ?_)
      · have c_58 : r_55 = 0 := c_58
        have f_63_6 : iR r_55 0 0 := iR_eqL c_58 g_55_0 (iR_c (n := 0) (a := 0) (b := 0) (by decide +kernel) (by decide +kernel)) (by decide +kernel)
        refine lv_aload_n hx hb dX7_whyNot_63 rfl (lv_at hl 1 rfl) ?_
        refine lv_iload_n hx hb dX7_whyNot_64 rfl (lv_at hl 2 rfl) ?_
        refine k_ci (wc := [(h, .inr (7, oM r i j)), ((r 19), .inl (cI, 24, .inl f19))]) (wr := [((r 14), .inl (cI, 2, .inl f14)), ((r 15), .inl (cI, 20, .inl f15)), ((r 16), .inl (cI, 20, .inl f16)), ((r 21), .inl (cI, 24, .inl f21)), ((r 22), .inl (cI, 24, .inl f22)), ((r 26), .inl (cI, 2, .inl f26)), ((r 27), .inl (cI, 2, .inl f27)), ((r 28), .inl (cI, 2, .inl f28)), ((r 29), .inl (cI, 2, .inl f29)), ((r 32), .inl (cI, 3200, .inl f32)), ((r 33), .inl (cI, 3200, .inl f33)), ((r 61), .inl (cJ, 500, .inr (.inl g61))), ((r 20), .inl (cI, 24, .inl f20))]) (fun hPc hDc hFc => va_runV (As := [.int x1]) (rest := []) ⟨hx, hb, hml, hown, hts⟩ (s_X7_wordsOf_v0 l dC dI cI cJ cZ cM h r i j x1 f19 hx1 hI H.size) (cwV 1 hts gX7_whyNot_X7_wordsOf rfl rfl rfl (by decide +kernel) ⟨(Nat.le_of_ble_eq_true rfl), (Nat.le_of_ble_eq_true rfl)⟩) (k_pV hPc hDc hK hN hC hS hFc hP (q0 := 13) (ci := 7) rfl rfl) rfl rfl hl.1 rfl (lv_room (Nat.le_of_ble_eq_true rfl)) dX7_whyNot_65 ⟨(Nat.le_of_ble_eq_true rfl), (Nat.le_of_ble_eq_true rfl)⟩) hP hD hS hA [13, 3] [0, 1, 2, 4, 5, 6, 7, 8, 9, 10, 11, 12, 14] rfl rfl rfl rfl (by decide) (fun _ => rfl) 0 0 rfl rfl (fun r_65 u_65 H locs hw hP hD hS => ?_)
        have g_65_0 := hw
        have hP : va_P (dC, dI) vwCl [((r 14), .inl (cI, 2, .inl f14)), ((r 15), .inl (cI, 20, .inl f15)), ((r 16), .inl (cI, 20, .inl f16)), ((r 21), .inl (cI, 24, .inl f21)), ((r 22), .inl (cI, 24, .inl f22)), ((r 26), .inl (cI, 2, .inl f26)), ((r 27), .inl (cI, 2, .inl f27)), ((r 28), .inl (cI, 2, .inl f28)), ((r 29), .inl (cI, 2, .inl f29)), ((r 32), .inl (cI, 3200, .inl f32)), ((r 33), .inl (cI, 3200, .inl f33)), ((r 61), .inl (cJ, 500, .inr (.inl g61))), ((r 20), .inl (cI, 24, .inl f20)), (h, .inr (7, oM r i j)), ((r 19), .inl (cI, 24, .inl f19))] H := hP
        have hD : va_D A [((r 14), .inl (cI, 2, .inl f14)), ((r 15), .inl (cI, 20, .inl f15)), ((r 16), .inl (cI, 20, .inl f16)), ((r 21), .inl (cI, 24, .inl f21)), ((r 22), .inl (cI, 24, .inl f22)), ((r 26), .inl (cI, 2, .inl f26)), ((r 27), .inl (cI, 2, .inl f27)), ((r 28), .inl (cI, 2, .inl f28)), ((r 29), .inl (cI, 2, .inl f29)), ((r 32), .inl (cI, 3200, .inl f32)), ((r 33), .inl (cI, 3200, .inl f33)), ((r 61), .inl (cJ, 500, .inr (.inl g61))), ((r 20), .inl (cI, 24, .inl f20)), (h, .inr (7, oM r i j)), ((r 19), .inl (cI, 24, .inl f19))] := hD
        have g_65_0 : r_65 = f19 (12 * (i 13).toNatClampNeg + x1.toNatClampNeg) := g_65_0
        refine lv_aload_n hx hb dX7_whyNot_68 rfl (lv_at hl 1 rfl) ?_
        refine lv_iload_n hx hb dX7_whyNot_69 rfl (lv_at hl 2 rfl) ?_
        refine k_ci (wc := [(h, .inr (7, oM r i j)), ((r 16), .inl (cI, 20, .inl f16)), ((r 20), .inl (cI, 24, .inl f20))]) (wr := [((r 14), .inl (cI, 2, .inl f14)), ((r 15), .inl (cI, 20, .inl f15)), ((r 21), .inl (cI, 24, .inl f21)), ((r 22), .inl (cI, 24, .inl f22)), ((r 26), .inl (cI, 2, .inl f26)), ((r 27), .inl (cI, 2, .inl f27)), ((r 28), .inl (cI, 2, .inl f28)), ((r 29), .inl (cI, 2, .inl f29)), ((r 32), .inl (cI, 3200, .inl f32)), ((r 33), .inl (cI, 3200, .inl f33)), ((r 61), .inl (cJ, 500, .inr (.inl g61))), ((r 19), .inl (cI, 24, .inl f19))]) (fun hPc hDc hFc => va_runV (As := [.int x1]) (rest := [.int r_65]) ⟨hx, hb, hml, hown, hts⟩ (s_X7_rhymeOf_v0 l dC dI cI cJ cZ cM h r i j x1 f16 f20 hx1 hI hf20 H.size) (cwV 1 hts gX7_whyNot_X7_rhymeOf rfl rfl rfl (by decide +kernel) ⟨(Nat.le_of_ble_eq_true rfl), (Nat.le_of_ble_eq_true rfl)⟩) (k_pV hPc hDc hK hN hC hS hFc hP (q0 := 13) (ci := 7) rfl rfl) rfl rfl hl.1 rfl (lv_room (Nat.le_of_ble_eq_true rfl)) dX7_whyNot_70 ⟨(Nat.le_of_ble_eq_true rfl), (Nat.le_of_ble_eq_true rfl)⟩) hP hD hS hA [13, 2, 12] [0, 1, 3, 4, 5, 6, 7, 8, 9, 10, 11, 14] rfl rfl rfl rfl (by decide) (fun _ => rfl) 0 0 rfl rfl (fun r_70 u_70 H locs hw hP hD hS => ?_)
        have g_70_0 := hw
        have hP : va_P (dC, dI) vwCl [((r 14), .inl (cI, 2, .inl f14)), ((r 15), .inl (cI, 20, .inl f15)), ((r 21), .inl (cI, 24, .inl f21)), ((r 22), .inl (cI, 24, .inl f22)), ((r 26), .inl (cI, 2, .inl f26)), ((r 27), .inl (cI, 2, .inl f27)), ((r 28), .inl (cI, 2, .inl f28)), ((r 29), .inl (cI, 2, .inl f29)), ((r 32), .inl (cI, 3200, .inl f32)), ((r 33), .inl (cI, 3200, .inl f33)), ((r 61), .inl (cJ, 500, .inr (.inl g61))), ((r 19), .inl (cI, 24, .inl f19)), (h, .inr (7, oM r i j)), ((r 16), .inl (cI, 20, .inl f16)), ((r 20), .inl (cI, 24, .inl f20))] H := hP
        have hD : va_D A [((r 14), .inl (cI, 2, .inl f14)), ((r 15), .inl (cI, 20, .inl f15)), ((r 21), .inl (cI, 24, .inl f21)), ((r 22), .inl (cI, 24, .inl f22)), ((r 26), .inl (cI, 2, .inl f26)), ((r 27), .inl (cI, 2, .inl f27)), ((r 28), .inl (cI, 2, .inl f28)), ((r 29), .inl (cI, 2, .inl f29)), ((r 32), .inl (cI, 3200, .inl f32)), ((r 33), .inl (cI, 3200, .inl f33)), ((r 61), .inl (cJ, 500, .inr (.inl g61))), ((r 19), .inl (cI, 24, .inl f19)), (h, .inr (7, oM r i j)), ((r 16), .inl (cI, 20, .inl f16)), ((r 20), .inl (cI, 24, .inl f20))] := hD
        have g_70_0 : r_70 = f16 (10 * (i 13).toNatClampNeg + (f20 (12 * (i 13).toNatClampNeg + x1.toNatClampNeg)).toNatClampNeg) := g_70_0
        refine lv_iadd hx hb dX7_whyNot_73 ?_
        refine lv_topi (fun y_73 ey_73 => ?_)
        refine lv_aload_n hx hb dX7_whyNot_74 rfl (lv_at hl 1 rfl) ?_
        refine k_ci (wc := [(h, .inr (7, oM r i j)), ((r 14), .inl (cI, 2, .inl f14)), ((r 15), .inl (cI, 20, .inl f15)), ((r 16), .inl (cI, 20, .inl f16)), ((r 19), .inl (cI, 24, .inl f19)), ((r 20), .inl (cI, 24, .inl f20)), ((r 26), .inl (cI, 2, .inl f26)), ((r 27), .inl (cI, 2, .inl f27)), ((r 32), .inl (cI, 3200, .inl f32)), ((r 33), .inl (cI, 3200, .inl f33)), ((r 61), .inl (cJ, 500, .inr (.inl g61)))]) (wr := [((r 21), .inl (cI, 24, .inl f21)), ((r 22), .inl (cI, 24, .inl f22)), ((r 28), .inl (cI, 2, .inl f28)), ((r 29), .inl (cI, 2, .inl f29))]) (fun hPc hDc hFc => va_runV (As := []) (rest := [.int y_73]) ⟨hx, hb, hml, hown, hts⟩ (s_X7_roomNow_v0 l dC dI cI cJ cZ cM h r i j f14 f15 f16 f19 f20 f26 f27 f32 f33 g61 hI hf14 hf15 hf20 hf26 hf27 hsg26 H.size) (cwV 0 hts gX7_whyNot_X7_roomNow rfl rfl rfl (by decide +kernel) ⟨(Nat.le_of_ble_eq_true rfl), (Nat.le_of_ble_eq_true rfl)⟩) (k_pV hPc hDc hK hN hC hS hFc hP (q0 := 12) (ci := 7) rfl rfl) rfl rfl hl.1 rfl (lv_room (Nat.le_of_ble_eq_true rfl)) dX7_whyNot_75 ⟨(Nat.le_of_ble_eq_true rfl), (Nat.le_of_ble_eq_true rfl)⟩) hP hD hS hA [12, 0, 1, 13, 11, 14, 4, 5, 8, 9, 10] [2, 3, 6, 7] rfl rfl rfl rfl (by decide) (fun _ => rfl) 0 0 rfl rfl (fun r_75 u_75 H locs hw hP hD hS => ?_)
        obtain ⟨g_75_0, g_75_1⟩ := hw
        have hP : va_P (dC, dI) vwCl [((r 21), .inl (cI, 24, .inl f21)), ((r 22), .inl (cI, 24, .inl f22)), ((r 28), .inl (cI, 2, .inl f28)), ((r 29), .inl (cI, 2, .inl f29)), (h, .inr (7, oM r (upd i 66 (-1)) j)), ((r 14), .inl (cI, 2, .inl f14)), ((r 15), .inl (cI, 20, .inl f15)), ((r 16), .inl (cI, 20, .inl f16)), ((r 19), .inl (cI, 24, .inl f19)), ((r 20), .inl (cI, 24, .inl f20)), ((r 26), .inl (cI, 2, .inl f26)), ((r 27), .inl (cI, 2, .inl f27)), ((r 32), .inl (cI, 3200, .inl f32)), ((r 33), .inl (cI, 3200, .inl f33)), ((r 61), .inl (cJ, 500, .inr (.inl (u_75.2.2.2.1 0))))] H := hP
        have hD : va_D A [((r 21), .inl (cI, 24, .inl f21)), ((r 22), .inl (cI, 24, .inl f22)), ((r 28), .inl (cI, 2, .inl f28)), ((r 29), .inl (cI, 2, .inl f29)), (h, .inr (7, oM r (upd i 66 (-1)) j)), ((r 14), .inl (cI, 2, .inl f14)), ((r 15), .inl (cI, 20, .inl f15)), ((r 16), .inl (cI, 20, .inl f16)), ((r 19), .inl (cI, 24, .inl f19)), ((r 20), .inl (cI, 24, .inl f20)), ((r 26), .inl (cI, 2, .inl f26)), ((r 27), .inl (cI, 2, .inl f27)), ((r 32), .inl (cI, 3200, .inl f32)), ((r 33), .inl (cI, 3200, .inl f33)), ((r 61), .inl (cJ, 500, .inr (.inl (u_75.2.2.2.1 0))))] := hD
        have g_75_1 : r_75 = rmf f26 f27 f32 f33 (envf f14 f15 f16 f19 f20 (i 13) (i 62) (i 63) (i 64) (i 65) (-1)) (i 13).toNatClampNeg := g_75_1
        refine lv_icmp_le (tgt := 83) hx hb dX7_whyNot_78 (by decide) (fun c_78 => ?_) (fun c_78 => ?_)
        · have c_78 : y_73 ≤ r_75 := c_78
          have f_83_7 : iR y_73 (-2147483648) 99 := iR_leL c_78 (iR_top _) g_75_0 (by decide +kernel)
          refine lv_aload_n hx hb dX7_whyNot_83 rfl (lv_at hl 1 rfl) ?_
          refine k_ci (wc := [(h, .inr (7, oM r (upd i 66 (-1)) j)), ((r 14), .inl (cI, 2, .inl f14)), ((r 15), .inl (cI, 20, .inl f15)), ((r 16), .inl (cI, 20, .inl f16)), ((r 19), .inl (cI, 24, .inl f19)), ((r 20), .inl (cI, 24, .inl f20)), ((r 28), .inl (cI, 2, .inl f28)), ((r 29), .inl (cI, 2, .inl f29)), ((r 32), .inl (cI, 3200, .inl f32)), ((r 33), .inl (cI, 3200, .inl f33)), ((r 61), .inl (cJ, 500, .inr (.inl (u_75.2.2.2.1 0))))]) (wr := [((r 21), .inl (cI, 24, .inl f21)), ((r 22), .inl (cI, 24, .inl f22)), ((r 26), .inl (cI, 2, .inl f26)), ((r 27), .inl (cI, 2, .inl f27))]) (fun hPc hDc hFc => va_runV (As := []) (rest := []) ⟨hx, hb, hml, hown, hts⟩ (s_X7_isContent_v0 l dC dI cI cJ cZ cM h r (upd i 66 (-1)) j f14 f15 f16 f19 f20 f28 f29 f32 f33 (u_75.2.2.2.1 0) (mR_upd 66 hI (show iR _ (loI 66) (hiI 66) from (iR_c (n := (-1)) (a := (-1)) (b := 11) (by decide +kernel) (by decide +kernel)))) hf14 hf15 hf20 hf28 hf29 hsg28 H.size) (cwV 0 hts gX7_whyNot_X7_isContent rfl rfl rfl (by decide +kernel) ⟨(Nat.le_of_ble_eq_true rfl), (Nat.le_of_ble_eq_true rfl)⟩) (k_pV hPc hDc hK hN hC hS hFc hP (q0 := 4) (ci := 7) rfl rfl) rfl rfl hl.1 rfl (lv_room (Nat.le_of_ble_eq_true rfl)) dX7_whyNot_84 ⟨(Nat.le_of_ble_eq_true rfl), (Nat.le_of_ble_eq_true rfl)⟩) hP hD hS hA [4, 5, 6, 7, 8, 9, 2, 3, 12, 13, 14] [0, 1, 10, 11] rfl rfl rfl rfl (by decide) (fun _ => rfl) 0 0 rfl rfl (fun r_84 u_84 H locs hw hP hD hS => ?_)
          obtain ⟨g_84_0, g_84_1⟩ := hw
          have hP : va_P (dC, dI) vwCl [((r 21), .inl (cI, 24, .inl f21)), ((r 22), .inl (cI, 24, .inl f22)), ((r 26), .inl (cI, 2, .inl f26)), ((r 27), .inl (cI, 2, .inl f27)), (h, .inr (7, oM r (upd i 66 (-1)) j)), ((r 14), .inl (cI, 2, .inl f14)), ((r 15), .inl (cI, 20, .inl f15)), ((r 16), .inl (cI, 20, .inl f16)), ((r 19), .inl (cI, 24, .inl f19)), ((r 20), .inl (cI, 24, .inl f20)), ((r 28), .inl (cI, 2, .inl f28)), ((r 29), .inl (cI, 2, .inl f29)), ((r 32), .inl (cI, 3200, .inl f32)), ((r 33), .inl (cI, 3200, .inl f33)), ((r 61), .inl (cJ, 500, .inr (.inl (u_84.2.2.2.1 0))))] H := hP
          have hD : va_D A [((r 21), .inl (cI, 24, .inl f21)), ((r 22), .inl (cI, 24, .inl f22)), ((r 26), .inl (cI, 2, .inl f26)), ((r 27), .inl (cI, 2, .inl f27)), (h, .inr (7, oM r (upd i 66 (-1)) j)), ((r 14), .inl (cI, 2, .inl f14)), ((r 15), .inl (cI, 20, .inl f15)), ((r 16), .inl (cI, 20, .inl f16)), ((r 19), .inl (cI, 24, .inl f19)), ((r 20), .inl (cI, 24, .inl f20)), ((r 28), .inl (cI, 2, .inl f28)), ((r 29), .inl (cI, 2, .inl f29)), ((r 32), .inl (cI, 3200, .inl f32)), ((r 33), .inl (cI, 3200, .inl f33)), ((r 61), .inl (cJ, 500, .inr (.inl (u_84.2.2.2.1 0))))] := hD
          have g_84_1 : r_84 = ctf f28 f29 f32 f33 (envf f14 f15 f16 f19 f20 (i 13) (i 62) (i 63) (i 64) (i 65) (-1)) (i 13).toNatClampNeg := g_84_1
          refine lv_if_eq (tgt := 94) hx hb dX7_whyNot_87 (by decide) (fun c_87 => ?_) (fun c_87 => ?_)
          · have c_87 : r_84 = 0 := c_87
            have f_94_8 : iR r_84 0 0 := iR_eqL c_87 g_84_0 (iR_c (n := 0) (a := 0) (b := 0) (by decide +kernel) (by decide +kernel)) (by decide +kernel)
            refine lv_iconst (v := 0) hx hb dX7_whyNot_94 (by decide +kernel) ?_
            exact k_ri B hP hD hS dX7_whyNot_95 ((fun k9 => match k9 with | 0 => -1 | _ => 0), (fun _ => 0), (fun _ => (fun _ => 0)), (fun k9 => match k9 with | 0 => (u_84.2.2.2.1 0) | _ => (fun _ => 0)), (fun _ => 0)) [4, 5, 6, 7, 8, 9, 0, 1, 2, 3, 10, 11, 12, 13, 14] rfl rfl rfl (Nat.le_of_ble_eq_true rfl) (Nat.le_of_ble_eq_true rfl) ⟨(show iR 0 0 5 from (iR_c (n := 0) (a := 0) (b := 5) (by decide +kernel) (by decide +kernel))), (show iR (-1) (-1) 11 from (iR_c (n := (-1)) (a := (-1)) (b := 11) (by decide +kernel) (by decide +kernel))), (show 0 = myf f14 f15 f16 f19 f20 f21 f22 f26 f27 f28 f29 f32 f33 (i 13) (i 62) (i 63) (i 64) (i 65) x1 from (by have ek : y_8.toNatClampNeg = 12 * (i 13).toNatClampNeg + x1.toNatClampNeg := (by have c0 := iR_cn f_8_3 (by decide +kernel); have c1 := iR_cn f_3_1 (by decide +kernel); have c2 := iR_cn hx1 (by decide +kernel); omega); exact whf_5 ey_21 (by rw [← ek]; exact ey_22) c_23 ey_39 (by rw [← ek]; exact ey_40) c_41 (by rw [← g_52_1]; exact g_55_1) c_58 (by rw [← g_65_0, ← g_70_0]; exact ey_73) g_75_1 c_78 g_84_1 (Or.inr ⟨c_87, rfl⟩)))⟩
          · have c_87 : ¬ r_84 = 0 := c_87
            have f_90_8 : iR r_84 1 1 := iR_neL c_87 g_84_0 (iR_c (n := 0) (a := 0) (b := 0) (by decide +kernel) (by decide +kernel)) (by decide +kernel)
            refine lv_iconst (v := 5) hx hb dX7_whyNot_90 (by decide +kernel) ?_
            refine lv_goto (tgt := 95) hx hb dX7_whyNot_91 (by decide) ?_
            exact k_ri B hP hD hS dX7_whyNot_95 ((fun k9 => match k9 with | 0 => -1 | _ => 0), (fun _ => 0), (fun _ => (fun _ => 0)), (fun k9 => match k9 with | 0 => (u_84.2.2.2.1 0) | _ => (fun _ => 0)), (fun _ => 0)) [4, 5, 6, 7, 8, 9, 0, 1, 2, 3, 10, 11, 12, 13, 14] rfl rfl rfl (Nat.le_of_ble_eq_true rfl) (Nat.le_of_ble_eq_true rfl) ⟨(show iR 5 0 5 from (iR_c (n := 5) (a := 0) (b := 5) (by decide +kernel) (by decide +kernel))), (show iR (-1) (-1) 11 from (iR_c (n := (-1)) (a := (-1)) (b := 11) (by decide +kernel) (by decide +kernel))), (show 5 = myf f14 f15 f16 f19 f20 f21 f22 f26 f27 f28 f29 f32 f33 (i 13) (i 62) (i 63) (i 64) (i 65) x1 from (by have ek : y_8.toNatClampNeg = 12 * (i 13).toNatClampNeg + x1.toNatClampNeg := (by have c0 := iR_cn f_8_3 (by decide +kernel); have c1 := iR_cn f_3_1 (by decide +kernel); have c2 := iR_cn hx1 (by decide +kernel); omega); exact whf_5 ey_21 (by rw [← ek]; exact ey_22) c_23 ey_39 (by rw [← ek]; exact ey_40) c_41 (by rw [← g_52_1]; exact g_55_1) c_58 (by rw [← g_65_0, ← g_70_0]; exact ey_73) g_75_1 c_78 g_84_1 (Or.inl ⟨c_87, rfl⟩)))⟩
        · have c_78 : r_75 < y_73 := i_nle c_78
          have f_81_7 : iR y_73 1 2147483647 := iR_ltR c_78 g_75_0 (iR_top _) (by decide +kernel)
          refine lv_iconst (v := 4) hx hb dX7_whyNot_81 (by decide +kernel) ?_
          exact k_ri B hP hD hS dX7_whyNot_82 ((fun k9 => match k9 with | 0 => -1 | _ => 0), (fun _ => 0), (fun _ => (fun _ => 0)), (fun k9 => match k9 with | 0 => (u_75.2.2.2.1 0) | _ => (fun _ => 0)), (fun _ => 0)) [4, 5, 6, 7, 8, 9, 0, 1, 10, 11, 2, 3, 12, 13, 14] rfl rfl rfl (Nat.le_of_ble_eq_true rfl) (Nat.le_of_ble_eq_true rfl) ⟨(show iR 4 0 5 from (iR_c (n := 4) (a := 0) (b := 5) (by decide +kernel) (by decide +kernel))), (show iR (-1) (-1) 11 from (iR_c (n := (-1)) (a := (-1)) (b := 11) (by decide +kernel) (by decide +kernel))), (show 4 = myf f14 f15 f16 f19 f20 f21 f22 f26 f27 f28 f29 f32 f33 (i 13) (i 62) (i 63) (i 64) (i 65) x1 from (by have ek : y_8.toNatClampNeg = 12 * (i 13).toNatClampNeg + x1.toNatClampNeg := (by have c0 := iR_cn f_8_3 (by decide +kernel); have c1 := iR_cn f_3_1 (by decide +kernel); have c2 := iR_cn hx1 (by decide +kernel); omega); exact whf_4 ey_21 (by rw [← ek]; exact ey_22) c_23 ey_39 (by rw [← ek]; exact ey_40) c_41 (by rw [← g_52_1]; exact g_55_1) c_58 (by rw [← g_65_0, ← g_70_0]; exact ey_73) g_75_1 c_78))⟩
      · have c_58 : ¬ r_55 = 0 := c_58
        have f_61_6 : iR r_55 1 1 := iR_neL c_58 g_55_0 (iR_c (n := 0) (a := 0) (b := 0) (by decide +kernel) (by decide +kernel)) (by decide +kernel)
        refine lv_iconst (v := 3) hx hb dX7_whyNot_61 (by decide +kernel) ?_
        exact k_ri B hP hD hS dX7_whyNot_62 ((fun k9 => match k9 with | 0 => (i 66) | _ => 0), (fun _ => 0), (fun _ => (fun _ => 0)), (fun k9 => match k9 with | 0 => g61 | _ => (fun _ => 0)), (fun _ => 0)) [13, 0, 1, 2, 3, 14, 4, 5, 6, 7, 8, 9, 10, 11, 12] rfl rfl rfl (Nat.le_of_ble_eq_true rfl) (Nat.le_of_ble_eq_true rfl) ⟨(show iR 3 0 5 from (iR_c (n := 3) (a := 0) (b := 5) (by decide +kernel) (by decide +kernel))), (show iR (i 66) (-1) 11 from (hI 66)), (show 3 = myf f14 f15 f16 f19 f20 f21 f22 f26 f27 f28 f29 f32 f33 (i 13) (i 62) (i 63) (i 64) (i 65) x1 from (by have ek : y_8.toNatClampNeg = 12 * (i 13).toNatClampNeg + x1.toNatClampNeg := (by have c0 := iR_cn f_8_3 (by decide +kernel); have c1 := iR_cn f_3_1 (by decide +kernel); have c2 := iR_cn hx1 (by decide +kernel); omega); exact whf_3 ey_21 (by rw [← ek]; exact ey_22) c_23 ey_39 (by rw [← ek]; exact ey_40) c_41 (by rw [← g_52_1]; exact g_55_1) c_58))⟩
    · have c_41 : ¬ y_40 = 0 := c_41
      refine lv_iconst (v := 2) hx hb dX7_whyNot_44 (by decide +kernel) ?_
      exact k_ri B hP hD hS dX7_whyNot_45 ((fun k9 => match k9 with | 0 => (i 66) | _ => 0), (fun _ => 0), (fun _ => (fun _ => 0)), (fun k9 => match k9 with | 0 => g61 | _ => (fun _ => 0)), (fun _ => 0)) [0, 1, 2, 3, 4, 5, 6, 7, 8, 9, 10, 11, 12, 13, 14] rfl rfl rfl (Nat.le_of_ble_eq_true rfl) (Nat.le_of_ble_eq_true rfl) ⟨(show iR 2 0 5 from (iR_c (n := 2) (a := 0) (b := 5) (by decide +kernel) (by decide +kernel))), (show iR (i 66) (-1) 11 from (hI 66)), (show 2 = myf f14 f15 f16 f19 f20 f21 f22 f26 f27 f28 f29 f32 f33 (i 13) (i 62) (i 63) (i 64) (i 65) x1 from (by have ek : y_8.toNatClampNeg = 12 * (i 13).toNatClampNeg + x1.toNatClampNeg := (by have c0 := iR_cn f_8_3 (by decide +kernel); have c1 := iR_cn f_3_1 (by decide +kernel); have c2 := iR_cn hx1 (by decide +kernel); omega); exact whf_2 ey_21 (by rw [← ek]; exact ey_22) c_23 ey_39 (by rw [← ek]; exact ey_40) c_41))⟩
  · have c_23 : ¬ y_22 = 0 := c_23
    refine lv_iconst (v := 1) hx hb dX7_whyNot_26 (by decide +kernel) ?_
    exact k_ri B hP hD hS dX7_whyNot_27 ((fun k9 => match k9 with | 0 => (i 66) | _ => 0), (fun _ => 0), (fun _ => (fun _ => 0)), (fun k9 => match k9 with | 0 => g61 | _ => (fun _ => 0)), (fun _ => 0)) [0, 1, 2, 3, 4, 5, 6, 7, 8, 9, 10, 11, 12, 13, 14] rfl rfl rfl (Nat.le_of_ble_eq_true rfl) (Nat.le_of_ble_eq_true rfl) ⟨(show iR 1 0 5 from (iR_c (n := 1) (a := 0) (b := 5) (by decide +kernel) (by decide +kernel))), (show iR (i 66) (-1) 11 from (hI 66)), (show 1 = myf f14 f15 f16 f19 f20 f21 f22 f26 f27 f28 f29 f32 f33 (i 13) (i 62) (i 63) (i 64) (i 65) x1 from (by have ek : y_8.toNatClampNeg = 12 * (i 13).toNatClampNeg + x1.toNatClampNeg := (by have c0 := iR_cn f_8_3 (by decide +kernel); have c1 := iR_cn f_3_1 (by decide +kernel); have c2 := iR_cn hx1 (by decide +kernel); omega); exact whf_1 ey_21 (by rw [← ek]; exact ey_22) c_23))⟩
