set_option maxHeartbeats 8000000 in
set_option maxRecDepth 100000 in
theorem s_X6_feedNumber_v5 (l : Launch) (dC : Nat → ClassId) (dI : Nat → Nat → Nat) (cI cJ cZ cM : ClassId) (a0 : Nat) (x1 : Int32) (a0_0 : Nat) (f0_0 : Nat → Int32) (v0_1 : Int32) (b0_2 : Nat) (b0_3 : Nat) (b0_4 : Nat) (b0_5 : Nat) (b0_6 : Nat) (b0_7 : Nat) (b0_8 : Nat) (v0_10 : Int32) (v0_11 : Int32) (v0_12 : Int32) (b0_13 : Nat) (b0_14 : Nat) (b0_15 : Nat) (a0_16 : Nat) (hxv0_1 : iR v0_1 0 1580) (hv0_1 : iR v0_1 0 1600) (hv0_11 : iR v0_11 1 65535) (hv0_12 : iR v0_12 (-1) 999) (hf0_0 : aR f0_0 0 255) : k_Mv l yX6_feedNumber wsX6_feedNumber ({ frames := 1, cells := 0, slots := 0, locals := 40 }) (dC, dI) vwCl (tyy cI cJ cZ cM) [(a0, .inr (6, [.ref a0_0, .int v0_1, .ref b0_2, .ref b0_3, .ref b0_4, .ref b0_5, .ref b0_6, .ref b0_7, .ref b0_8, .null, .int v0_10, .int v0_11, .int v0_12, .ref b0_13, .ref b0_14, .ref b0_15, .ref a0_16])), (a0_0, .inl (cI, 1600, .inl f0_0))] [.ref a0, .int x1] 0 0 (fun (u9 : SU) => [(a0, .inr (6, [.ref a0_0, .int (u9.1 0), .ref b0_2, .ref b0_3, .ref b0_4, .ref b0_5, .ref b0_6, .ref b0_7, .ref b0_8, .null, .int v0_10, .int v0_11, .int v0_12, .ref b0_13, .ref b0_14, .ref b0_15, .ref a0_16])), (a0_0, .inl (cI, 1600, .inl (u9.2.2.1 0)))]) (fun (u9 : SU) => (iR (u9.1 0) 4 1584) ∧ (aR (u9.2.2.1 0) 0 255) ∧ ((u9.1 0) = tn4 v0_1) ∧ ((u9.2.2.1 0) = tp4 f0_0 v0_1 x1)) := by
  refine fun sz => k_enter (cc := cX6_feedNumber) (maxL := 3) (ret := none) (Qc := fun A => va_Qv (fun (u9 : SU) => (iR (u9.1 0) 4 1584) ∧ (aR (u9.2.2.1 0) 0 255) ∧ ((u9.1 0) = tn4 v0_1) ∧ ((u9.2.2.1 0) = tp4 f0_0 v0_1 x1)) (fun u => k_B (dC, dI) vwCl (tyy cI cJ cZ cM) A ((fun (u9 : SU) => [(a0, .inr (6, [.ref a0_0, .int (u9.1 0), .ref b0_2, .ref b0_3, .ref b0_4, .ref b0_5, .ref b0_6, .ref b0_7, .ref b0_8, .null, .int v0_10, .int v0_11, .int v0_12, .ref b0_13, .ref b0_14, .ref b0_15, .ref a0_16])), (a0_0, .inl (cI, 1600, .inl (u9.2.2.1 0)))]) u)) A) sz (by decide +kernel) rfl (Nat.le_of_ble_eq_true rfl) (fun p e s m args below meth c A ls H locs B hP hD hS hl => ?_)
  obtain ⟨hx, hb, hml, hown, hts, hr, hlk, hnm, hK, hA, hN, hC⟩ := id B
  have hown : s.vm.findClass RX6 = some m.cls := hown
  have hl : lv_has ls 3 [(0, .ref a0), (1, .int x1)] := hl
  have w_0 : (Cond.fieldLink RX6 92 "WishSea" "tapeLength" "I").before args s = true := hts _ (List.mem_of_getElem? (i := 1) rfl)
  have w_1 : (Cond.fieldLink RX6 9 "WishSea" "tape" "[I").before args s = true := hts _ (List.mem_of_getElem? (i := 2) rfl)
  have hinX6 : ∀ w ∈ u_ws RX6 TX6 17, w ∈ wsX6_feedNumber := fun _ h => List.mem_cons_of_mem _ (List.mem_append_right _ h)
  refine lv_bipush (v := 24) hx hb dX6_feedNumber_0 (by decide +kernel) ?_
  refine lv_istore_n (lv' := [(2, .int 24), (0, .ref a0), (1, .int x1)]) hx hb dX6_feedNumber_2 rfl hl (by decide) rfl (fun ls hl => ?_)
  refine lv_iload_n hx hb dX6_feedNumber_3 rfl (lv_at hl 0 rfl) ?_
  refine lv_if_lt (tgt := 51) hx hb dX6_feedNumber_4 (by decide) (fun q9 => absurd q9 (by decide +kernel)) (fun _ => ?_)
  refine lv_aload_n hx hb dX6_feedNumber_7 rfl (lv_at hl 1 rfl) ?_
  refine k_get (D := (dC, dI)) (ci := 6) (v := .int v0_1) (C := RX6) (T := TX6) (N := 17) hx hb hts hinX6 hown hK hP 0 rfl rfl 1 (by decide) w_0 rfl rfl dX6_feedNumber_8 ?_
  refine lv_aload_n hx hb dX6_feedNumber_11 rfl (lv_at hl 1 rfl) ?_
  refine k_get (D := (dC, dI)) (ci := 6) (v := .ref a0_0) (C := RX6) (T := TX6) (N := 17) hx hb hts hinX6 hown hK hP 0 rfl rfl 0 (by decide) w_1 rfl rfl dX6_feedNumber_12 ?_
  refine va_alen (v := 1600) hx hb hK hP 1 0 rfl rfl rfl dX6_feedNumber_15 ?_
  refine lv_icmp_ge (tgt := 45) hx hb dX6_feedNumber_16 (by decide) (fun c_16p2 => ?_) (fun c_16p2 => ?_)
  · exact iR_cl (iR_leL (a' := 1600) (b' := 1580) c_16p2 (iR_c (n := 1600) (a := 1600) (b := 1600) (by decide +kernel) (by decide +kernel)) hxv0_1 (by decide +kernel)) (by decide +kernel)
  · have c_16p2 : v0_1 < 1600 := i_nle c_16p2
    refine lv_aload_n hx hb dX6_feedNumber_19 rfl (lv_at hl 1 rfl) ?_
    refine k_get (D := (dC, dI)) (ci := 6) (v := .ref a0_0) (C := RX6) (T := TX6) (N := 17) hx hb hts hinX6 hown hK hP 0 rfl rfl 0 (by decide) w_1 rfl rfl dX6_feedNumber_20 ?_
    refine lv_aload_n hx hb dX6_feedNumber_23 rfl (lv_at hl 1 rfl) ?_
    refine k_get (D := (dC, dI)) (ci := 6) (v := .int v0_1) (C := RX6) (T := TX6) (N := 17) hx hb hts hinX6 hown hK hP 0 rfl rfl 1 (by decide) w_0 rfl rfl dX6_feedNumber_24 ?_
    refine lv_iload_n hx hb dX6_feedNumber_27 rfl (lv_at hl 2 rfl) ?_
    refine lv_iload_n hx hb dX6_feedNumber_28 rfl (lv_at hl 0 rfl) ?_
    refine lv_iushr (v := (x1.toUInt32 >>> ((24 : Int32).toUInt32 &&& Int32.toUInt32 31)).toInt32) hx hb dX6_feedNumber_29 rfl ?_
    refine lv_topi (fun y_29p2 ey_29p2 => ?_)
    refine lv_sipush (v := 255) hx hb dX6_feedNumber_30 (by decide +kernel) ?_
    refine lv_iand hx hb dX6_feedNumber_33 ?_
    refine lv_topi (fun y_33p2 ey_33p2 => ?_)
    have f_33p2_1 : iR y_33p2 0 255 := iR_andR ey_33p2 (iR_c (n := 255) (a := 255) (b := 255) (by decide +kernel) (by decide +kernel)) (by decide +kernel)
    refine s_iast (g := (upd f0_0 v0_1.toNatClampNeg y_33p2)) (ws' := [(a0, .inr (6, [.ref a0_0, .int v0_1, .ref b0_2, .ref b0_3, .ref b0_4, .ref b0_5, .ref b0_6, .ref b0_7, .ref b0_8, .null, .int v0_10, .int v0_11, .int v0_12, .ref b0_13, .ref b0_14, .ref b0_15, .ref a0_16])), (a0_0, .inl (cI, 1600, .inl (upd f0_0 v0_1.toNatClampNeg y_33p2)))]) hx hb hK hP hD hS 1 0 rfl rfl (iR_vp hxv0_1 (by decide +kernel)) rfl rfl dX6_feedNumber_34 (fun H locs hP hD hS => ?_)
    refine lv_aload_n hx hb dX6_feedNumber_35 rfl (lv_at hl 1 rfl) ?_
    refine lv_dup hx hb dX6_feedNumber_36 rfl ?_
    refine k_get (D := (dC, dI)) (ci := 6) (v := .int v0_1) (C := RX6) (T := TX6) (N := 17) hx hb hts hinX6 hown hK hP 0 rfl rfl 1 (by decide) w_0 rfl rfl dX6_feedNumber_37 ?_
    refine lv_iconst (v := 1) hx hb dX6_feedNumber_40 (by decide +kernel) ?_
    refine lv_iadd hx hb dX6_feedNumber_41 ?_
    refine lv_topi (fun y_41p2 ey_41p2 => ?_)
    have f_41p2_2 : iR y_41p2 1 1581 := iR_add ey_41p2 hxv0_1 (iR_c (n := 1) (a := 1) (b := 1) (by decide +kernel) (by decide +kernel)) (by decide +kernel)
    refine k_put (D := (dC, dI)) (ci := 6) (v := .int y_41p2) (C := RX6) (T := TX6) (N := 17) (ws' := [(a0, .inr (6, [.ref a0_0, .int y_41p2, .ref b0_2, .ref b0_3, .ref b0_4, .ref b0_5, .ref b0_6, .ref b0_7, .ref b0_8, .null, .int v0_10, .int v0_11, .int v0_12, .ref b0_13, .ref b0_14, .ref b0_15, .ref a0_16])), (a0_0, .inl (cI, 1600, .inl (upd f0_0 v0_1.toNatClampNeg y_33p2)))]) hx hb hts hinX6 tyX6 tyX6_ok nmX6 hown hK hP hD hS 0 rfl rfl 1 (by decide) w_0 rfl rfl rfl rfl (Nat.le_of_ble_eq_true rfl) rfl dX6_feedNumber_42 (fun H locs hP hD hS => ?_)
    refine lv_iinc (v := 16) (lv' := [(2, .int 16), (0, .ref a0), (1, .int x1)]) hx hb dX6_feedNumber_45 hl (k := 0) rfl (by decide +kernel) (by decide) rfl (fun ls hl => ?_)
    refine lv_goto (tgt := 3) hx hb dX6_feedNumber_48 (by decide) ?_
    refine lv_iload_n hx hb dX6_feedNumber_3 rfl (lv_at hl 0 rfl) ?_
    refine lv_if_lt (tgt := 51) hx hb dX6_feedNumber_4 (by decide) (fun q9 => absurd q9 (by decide +kernel)) (fun _ => ?_)
    refine lv_aload_n hx hb dX6_feedNumber_7 rfl (lv_at hl 1 rfl) ?_
    refine k_get (D := (dC, dI)) (ci := 6) (v := .int y_41p2) (C := RX6) (T := TX6) (N := 17) hx hb hts hinX6 hown hK hP 0 rfl rfl 1 (by decide) w_0 rfl rfl dX6_feedNumber_8 ?_
    refine lv_aload_n hx hb dX6_feedNumber_11 rfl (lv_at hl 1 rfl) ?_
    refine k_get (D := (dC, dI)) (ci := 6) (v := .ref a0_0) (C := RX6) (T := TX6) (N := 17) hx hb hts hinX6 hown hK hP 0 rfl rfl 0 (by decide) w_1 rfl rfl dX6_feedNumber_12 ?_
    refine va_alen (v := 1600) hx hb hK hP 1 0 rfl rfl rfl dX6_feedNumber_15 ?_
    refine lv_icmp_ge (tgt := 45) hx hb dX6_feedNumber_16 (by decide) (fun c_16p2p42p48 => ?_) (fun c_16p2p42p48 => ?_)
    · exact iR_cl (iR_leL (a' := 1600) (b' := 1581) c_16p2p42p48 (iR_c (n := 1600) (a := 1600) (b := 1600) (by decide +kernel) (by decide +kernel)) f_41p2_2 (by decide +kernel)) (by decide +kernel)
    · have c_16p2p42p48 : y_41p2 < 1600 := i_nle c_16p2p42p48
      refine lv_aload_n hx hb dX6_feedNumber_19 rfl (lv_at hl 1 rfl) ?_
      refine k_get (D := (dC, dI)) (ci := 6) (v := .ref a0_0) (C := RX6) (T := TX6) (N := 17) hx hb hts hinX6 hown hK hP 0 rfl rfl 0 (by decide) w_1 rfl rfl dX6_feedNumber_20 ?_
      refine lv_aload_n hx hb dX6_feedNumber_23 rfl (lv_at hl 1 rfl) ?_
      refine k_get (D := (dC, dI)) (ci := 6) (v := .int y_41p2) (C := RX6) (T := TX6) (N := 17) hx hb hts hinX6 hown hK hP 0 rfl rfl 1 (by decide) w_0 rfl rfl dX6_feedNumber_24 ?_
      refine lv_iload_n hx hb dX6_feedNumber_27 rfl (lv_at hl 2 rfl) ?_
      refine lv_iload_n hx hb dX6_feedNumber_28 rfl (lv_at hl 0 rfl) ?_
      refine lv_iushr (v := (x1.toUInt32 >>> ((16 : Int32).toUInt32 &&& Int32.toUInt32 31)).toInt32) hx hb dX6_feedNumber_29 rfl ?_
      refine lv_topi (fun y_29p2p42p48 ey_29p2p42p48 => ?_)
      refine lv_sipush (v := 255) hx hb dX6_feedNumber_30 (by decide +kernel) ?_
      refine lv_iand hx hb dX6_feedNumber_33 ?_
      refine lv_topi (fun y_33p2p42p48 ey_33p2p42p48 => ?_)
      have f_33p2p42p48_3 : iR y_33p2p42p48 0 255 := iR_andR ey_33p2p42p48 (iR_c (n := 255) (a := 255) (b := 255) (by decide +kernel) (by decide +kernel)) (by decide +kernel)
      refine s_iast (g := (upd (upd f0_0 v0_1.toNatClampNeg y_33p2) y_41p2.toNatClampNeg y_33p2p42p48)) (ws' := [(a0, .inr (6, [.ref a0_0, .int y_41p2, .ref b0_2, .ref b0_3, .ref b0_4, .ref b0_5, .ref b0_6, .ref b0_7, .ref b0_8, .null, .int v0_10, .int v0_11, .int v0_12, .ref b0_13, .ref b0_14, .ref b0_15, .ref a0_16])), (a0_0, .inl (cI, 1600, .inl (upd (upd f0_0 v0_1.toNatClampNeg y_33p2) y_41p2.toNatClampNeg y_33p2p42p48)))]) hx hb hK hP hD hS 1 0 rfl rfl (iR_vp f_41p2_2 (by decide +kernel)) rfl rfl dX6_feedNumber_34 (fun H locs hP hD hS => ?_)
      refine lv_aload_n hx hb dX6_feedNumber_35 rfl (lv_at hl 1 rfl) ?_
      refine lv_dup hx hb dX6_feedNumber_36 rfl ?_
      refine k_get (D := (dC, dI)) (ci := 6) (v := .int y_41p2) (C := RX6) (T := TX6) (N := 17) hx hb hts hinX6 hown hK hP 0 rfl rfl 1 (by decide) w_0 rfl rfl dX6_feedNumber_37 ?_
      refine lv_iconst (v := 1) hx hb dX6_feedNumber_40 (by decide +kernel) ?_
      refine lv_iadd hx hb dX6_feedNumber_41 ?_
      refine lv_topi (fun y_41p2p42p48 ey_41p2p42p48 => ?_)
      have f_41p2p42p48_4 : iR y_41p2p42p48 2 1582 := iR_add ey_41p2p42p48 f_41p2_2 (iR_c (n := 1) (a := 1) (b := 1) (by decide +kernel) (by decide +kernel)) (by decide +kernel)
      refine k_put (D := (dC, dI)) (ci := 6) (v := .int y_41p2p42p48) (C := RX6) (T := TX6) (N := 17) (ws' := [(a0, .inr (6, [.ref a0_0, .int y_41p2p42p48, .ref b0_2, .ref b0_3, .ref b0_4, .ref b0_5, .ref b0_6, .ref b0_7, .ref b0_8, .null, .int v0_10, .int v0_11, .int v0_12, .ref b0_13, .ref b0_14, .ref b0_15, .ref a0_16])), (a0_0, .inl (cI, 1600, .inl (upd (upd f0_0 v0_1.toNatClampNeg y_33p2) y_41p2.toNatClampNeg y_33p2p42p48)))]) hx hb hts hinX6 tyX6 tyX6_ok nmX6 hown hK hP hD hS 0 rfl rfl 1 (by decide) w_0 rfl rfl rfl rfl (Nat.le_of_ble_eq_true rfl) rfl dX6_feedNumber_42 (fun H locs hP hD hS => ?_)
      refine lv_iinc (v := 8) (lv' := [(2, .int 8), (0, .ref a0), (1, .int x1)]) hx hb dX6_feedNumber_45 hl (k := 0) rfl (by decide +kernel) (by decide) rfl (fun ls hl => ?_)
      refine lv_goto (tgt := 3) hx hb dX6_feedNumber_48 (by decide) ?_
      refine lv_iload_n hx hb dX6_feedNumber_3 rfl (lv_at hl 0 rfl) ?_
      refine lv_if_lt (tgt := 51) hx hb dX6_feedNumber_4 (by decide) (fun q9 => absurd q9 (by decide +kernel)) (fun _ => ?_)
      refine lv_aload_n hx hb dX6_feedNumber_7 rfl (lv_at hl 1 rfl) ?_
      refine k_get (D := (dC, dI)) (ci := 6) (v := .int y_41p2p42p48) (C := RX6) (T := TX6) (N := 17) hx hb hts hinX6 hown hK hP 0 rfl rfl 1 (by decide) w_0 rfl rfl dX6_feedNumber_8 ?_
      refine lv_aload_n hx hb dX6_feedNumber_11 rfl (lv_at hl 1 rfl) ?_
      refine k_get (D := (dC, dI)) (ci := 6) (v := .ref a0_0) (C := RX6) (T := TX6) (N := 17) hx hb hts hinX6 hown hK hP 0 rfl rfl 0 (by decide) w_1 rfl rfl dX6_feedNumber_12 ?_
      refine va_alen (v := 1600) hx hb hK hP 1 0 rfl rfl rfl dX6_feedNumber_15 ?_
      refine lv_icmp_ge (tgt := 45) hx hb dX6_feedNumber_16 (by decide) (fun c_16p2p42p48p42p48 => ?_) (fun c_16p2p42p48p42p48 => ?_)
      · exact iR_cl (iR_leL (a' := 1600) (b' := 1582) c_16p2p42p48p42p48 (iR_c (n := 1600) (a := 1600) (b := 1600) (by decide +kernel) (by decide +kernel)) f_41p2p42p48_4 (by decide +kernel)) (by decide +kernel)
      · have c_16p2p42p48p42p48 : y_41p2p42p48 < 1600 := i_nle c_16p2p42p48p42p48
        refine lv_aload_n hx hb dX6_feedNumber_19 rfl (lv_at hl 1 rfl) ?_
        refine k_get (D := (dC, dI)) (ci := 6) (v := .ref a0_0) (C := RX6) (T := TX6) (N := 17) hx hb hts hinX6 hown hK hP 0 rfl rfl 0 (by decide) w_1 rfl rfl dX6_feedNumber_20 ?_
        refine lv_aload_n hx hb dX6_feedNumber_23 rfl (lv_at hl 1 rfl) ?_
        refine k_get (D := (dC, dI)) (ci := 6) (v := .int y_41p2p42p48) (C := RX6) (T := TX6) (N := 17) hx hb hts hinX6 hown hK hP 0 rfl rfl 1 (by decide) w_0 rfl rfl dX6_feedNumber_24 ?_
        refine lv_iload_n hx hb dX6_feedNumber_27 rfl (lv_at hl 2 rfl) ?_
        refine lv_iload_n hx hb dX6_feedNumber_28 rfl (lv_at hl 0 rfl) ?_
        refine lv_iushr (v := (x1.toUInt32 >>> ((8 : Int32).toUInt32 &&& Int32.toUInt32 31)).toInt32) hx hb dX6_feedNumber_29 rfl ?_
        refine lv_topi (fun y_29p2p42p48p42p48 ey_29p2p42p48p42p48 => ?_)
        refine lv_sipush (v := 255) hx hb dX6_feedNumber_30 (by decide +kernel) ?_
        refine lv_iand hx hb dX6_feedNumber_33 ?_
        refine lv_topi (fun y_33p2p42p48p42p48 ey_33p2p42p48p42p48 => ?_)
        have f_33p2p42p48p42p48_5 : iR y_33p2p42p48p42p48 0 255 := iR_andR ey_33p2p42p48p42p48 (iR_c (n := 255) (a := 255) (b := 255) (by decide +kernel) (by decide +kernel)) (by decide +kernel)
        refine s_iast (g := (upd (upd (upd f0_0 v0_1.toNatClampNeg y_33p2) y_41p2.toNatClampNeg y_33p2p42p48) y_41p2p42p48.toNatClampNeg y_33p2p42p48p42p48)) (ws' := [(a0, .inr (6, [.ref a0_0, .int y_41p2p42p48, .ref b0_2, .ref b0_3, .ref b0_4, .ref b0_5, .ref b0_6, .ref b0_7, .ref b0_8, .null, .int v0_10, .int v0_11, .int v0_12, .ref b0_13, .ref b0_14, .ref b0_15, .ref a0_16])), (a0_0, .inl (cI, 1600, .inl (upd (upd (upd f0_0 v0_1.toNatClampNeg y_33p2) y_41p2.toNatClampNeg y_33p2p42p48) y_41p2p42p48.toNatClampNeg y_33p2p42p48p42p48)))]) hx hb hK hP hD hS 1 0 rfl rfl (iR_vp f_41p2p42p48_4 (by decide +kernel)) rfl rfl dX6_feedNumber_34 (fun H locs hP hD hS => ?_)
        refine lv_aload_n hx hb dX6_feedNumber_35 rfl (lv_at hl 1 rfl) ?_
        refine lv_dup hx hb dX6_feedNumber_36 rfl ?_
        refine k_get (D := (dC, dI)) (ci := 6) (v := .int y_41p2p42p48) (C := RX6) (T := TX6) (N := 17) hx hb hts hinX6 hown hK hP 0 rfl rfl 1 (by decide) w_0 rfl rfl dX6_feedNumber_37 ?_
        refine lv_iconst (v := 1) hx hb dX6_feedNumber_40 (by decide +kernel) ?_
        refine lv_iadd hx hb dX6_feedNumber_41 ?_
        refine lv_topi (fun y_41p2p42p48p42p48 ey_41p2p42p48p42p48 => ?_)
        have f_41p2p42p48p42p48_6 : iR y_41p2p42p48p42p48 3 1583 := iR_add ey_41p2p42p48p42p48 f_41p2p42p48_4 (iR_c (n := 1) (a := 1) (b := 1) (by decide +kernel) (by decide +kernel)) (by decide +kernel)
        refine k_put (D := (dC, dI)) (ci := 6) (v := .int y_41p2p42p48p42p48) (C := RX6) (T := TX6) (N := 17) (ws' := [(a0, .inr (6, [.ref a0_0, .int y_41p2p42p48p42p48, .ref b0_2, .ref b0_3, .ref b0_4, .ref b0_5, .ref b0_6, .ref b0_7, .ref b0_8, .null, .int v0_10, .int v0_11, .int v0_12, .ref b0_13, .ref b0_14, .ref b0_15, .ref a0_16])), (a0_0, .inl (cI, 1600, .inl (upd (upd (upd f0_0 v0_1.toNatClampNeg y_33p2) y_41p2.toNatClampNeg y_33p2p42p48) y_41p2p42p48.toNatClampNeg y_33p2p42p48p42p48)))]) hx hb hts hinX6 tyX6 tyX6_ok nmX6 hown hK hP hD hS 0 rfl rfl 1 (by decide) w_0 rfl rfl rfl rfl (Nat.le_of_ble_eq_true rfl) rfl dX6_feedNumber_42 (fun H locs hP hD hS => ?_)
        refine lv_iinc (v := 0) (lv' := [(2, .int 0), (0, .ref a0), (1, .int x1)]) hx hb dX6_feedNumber_45 hl (k := 0) rfl (by decide +kernel) (by decide) rfl (fun ls hl => ?_)
        refine lv_goto (tgt := 3) hx hb dX6_feedNumber_48 (by decide) ?_
        refine lv_iload_n hx hb dX6_feedNumber_3 rfl (lv_at hl 0 rfl) ?_
        refine lv_if_lt (tgt := 51) hx hb dX6_feedNumber_4 (by decide) (fun q9 => absurd q9 (by decide +kernel)) (fun _ => ?_)
        refine lv_aload_n hx hb dX6_feedNumber_7 rfl (lv_at hl 1 rfl) ?_
        refine k_get (D := (dC, dI)) (ci := 6) (v := .int y_41p2p42p48p42p48) (C := RX6) (T := TX6) (N := 17) hx hb hts hinX6 hown hK hP 0 rfl rfl 1 (by decide) w_0 rfl rfl dX6_feedNumber_8 ?_
        refine lv_aload_n hx hb dX6_feedNumber_11 rfl (lv_at hl 1 rfl) ?_
        refine k_get (D := (dC, dI)) (ci := 6) (v := .ref a0_0) (C := RX6) (T := TX6) (N := 17) hx hb hts hinX6 hown hK hP 0 rfl rfl 0 (by decide) w_1 rfl rfl dX6_feedNumber_12 ?_
        refine va_alen (v := 1600) hx hb hK hP 1 0 rfl rfl rfl dX6_feedNumber_15 ?_
        refine lv_icmp_ge (tgt := 45) hx hb dX6_feedNumber_16 (by decide) (fun c_16p2p42p48p42p48p42p48 => ?_) (fun c_16p2p42p48p42p48p42p48 => ?_)
        · exact iR_cl (iR_leL (a' := 1600) (b' := 1583) c_16p2p42p48p42p48p42p48 (iR_c (n := 1600) (a := 1600) (b := 1600) (by decide +kernel) (by decide +kernel)) f_41p2p42p48p42p48_6 (by decide +kernel)) (by decide +kernel)
        · have c_16p2p42p48p42p48p42p48 : y_41p2p42p48p42p48 < 1600 := i_nle c_16p2p42p48p42p48p42p48
          refine lv_aload_n hx hb dX6_feedNumber_19 rfl (lv_at hl 1 rfl) ?_
          refine k_get (D := (dC, dI)) (ci := 6) (v := .ref a0_0) (C := RX6) (T := TX6) (N := 17) hx hb hts hinX6 hown hK hP 0 rfl rfl 0 (by decide) w_1 rfl rfl dX6_feedNumber_20 ?_
          refine lv_aload_n hx hb dX6_feedNumber_23 rfl (lv_at hl 1 rfl) ?_
          refine k_get (D := (dC, dI)) (ci := 6) (v := .int y_41p2p42p48p42p48) (C := RX6) (T := TX6) (N := 17) hx hb hts hinX6 hown hK hP 0 rfl rfl 1 (by decide) w_0 rfl rfl dX6_feedNumber_24 ?_
          refine lv_iload_n hx hb dX6_feedNumber_27 rfl (lv_at hl 2 rfl) ?_
          refine lv_iload_n hx hb dX6_feedNumber_28 rfl (lv_at hl 0 rfl) ?_
          refine lv_iushr (v := (x1.toUInt32 >>> ((0 : Int32).toUInt32 &&& Int32.toUInt32 31)).toInt32) hx hb dX6_feedNumber_29 rfl ?_
          refine lv_topi (fun y_29p2p42p48p42p48p42p48 ey_29p2p42p48p42p48p42p48 => ?_)
          refine lv_sipush (v := 255) hx hb dX6_feedNumber_30 (by decide +kernel) ?_
          refine lv_iand hx hb dX6_feedNumber_33 ?_
          refine lv_topi (fun y_33p2p42p48p42p48p42p48 ey_33p2p42p48p42p48p42p48 => ?_)
          have f_33p2p42p48p42p48p42p48_7 : iR y_33p2p42p48p42p48p42p48 0 255 := iR_andR ey_33p2p42p48p42p48p42p48 (iR_c (n := 255) (a := 255) (b := 255) (by decide +kernel) (by decide +kernel)) (by decide +kernel)
          refine s_iast (g := (upd (upd (upd (upd f0_0 v0_1.toNatClampNeg y_33p2) y_41p2.toNatClampNeg y_33p2p42p48) y_41p2p42p48.toNatClampNeg y_33p2p42p48p42p48) y_41p2p42p48p42p48.toNatClampNeg y_33p2p42p48p42p48p42p48)) (ws' := [(a0, .inr (6, [.ref a0_0, .int y_41p2p42p48p42p48, .ref b0_2, .ref b0_3, .ref b0_4, .ref b0_5, .ref b0_6, .ref b0_7, .ref b0_8, .null, .int v0_10, .int v0_11, .int v0_12, .ref b0_13, .ref b0_14, .ref b0_15, .ref a0_16])), (a0_0, .inl (cI, 1600, .inl (upd (upd (upd (upd f0_0 v0_1.toNatClampNeg y_33p2) y_41p2.toNatClampNeg y_33p2p42p48) y_41p2p42p48.toNatClampNeg y_33p2p42p48p42p48) y_41p2p42p48p42p48.toNatClampNeg y_33p2p42p48p42p48p42p48)))]) hx hb hK hP hD hS 1 0 rfl rfl (iR_vp f_41p2p42p48p42p48_6 (by decide +kernel)) rfl rfl dX6_feedNumber_34 (fun H locs hP hD hS => ?_)
          refine lv_aload_n hx hb dX6_feedNumber_35 rfl (lv_at hl 1 rfl) ?_
          refine lv_dup hx hb dX6_feedNumber_36 rfl ?_
          refine k_get (D := (dC, dI)) (ci := 6) (v := .int y_41p2p42p48p42p48) (C := RX6) (T := TX6) (N := 17) hx hb hts hinX6 hown hK hP 0 rfl rfl 1 (by decide) w_0 rfl rfl dX6_feedNumber_37 ?_
          refine lv_iconst (v := 1) hx hb dX6_feedNumber_40 (by decide +kernel) ?_
          refine lv_iadd hx hb dX6_feedNumber_41 ?_
          refine lv_topi (fun y_41p2p42p48p42p48p42p48 ey_41p2p42p48p42p48p42p48 => ?_)
          have f_41p2p42p48p42p48p42p48_8 : iR y_41p2p42p48p42p48p42p48 4 1584 := iR_add ey_41p2p42p48p42p48p42p48 f_41p2p42p48p42p48_6 (iR_c (n := 1) (a := 1) (b := 1) (by decide +kernel) (by decide +kernel)) (by decide +kernel)
          refine k_put (D := (dC, dI)) (ci := 6) (v := .int y_41p2p42p48p42p48p42p48) (C := RX6) (T := TX6) (N := 17) (ws' := [(a0, .inr (6, [.ref a0_0, .int y_41p2p42p48p42p48p42p48, .ref b0_2, .ref b0_3, .ref b0_4, .ref b0_5, .ref b0_6, .ref b0_7, .ref b0_8, .null, .int v0_10, .int v0_11, .int v0_12, .ref b0_13, .ref b0_14, .ref b0_15, .ref a0_16])), (a0_0, .inl (cI, 1600, .inl (upd (upd (upd (upd f0_0 v0_1.toNatClampNeg y_33p2) y_41p2.toNatClampNeg y_33p2p42p48) y_41p2p42p48.toNatClampNeg y_33p2p42p48p42p48) y_41p2p42p48p42p48.toNatClampNeg y_33p2p42p48p42p48p42p48)))]) hx hb hts hinX6 tyX6 tyX6_ok nmX6 hown hK hP hD hS 0 rfl rfl 1 (by decide) w_0 rfl rfl rfl rfl (Nat.le_of_ble_eq_true rfl) rfl dX6_feedNumber_42 (fun H locs hP hD hS => ?_)
          refine lv_iinc (v := (-8)) (lv' := [(2, .int (-8)), (0, .ref a0), (1, .int x1)]) hx hb dX6_feedNumber_45 hl (k := 0) rfl (by decide +kernel) (by decide) rfl (fun ls hl => ?_)
          refine lv_goto (tgt := 3) hx hb dX6_feedNumber_48 (by decide) ?_
          refine lv_iload_n hx hb dX6_feedNumber_3 rfl (lv_at hl 0 rfl) ?_
          refine lv_if_lt (tgt := 51) hx hb dX6_feedNumber_4 (by decide) (fun _ => ?_) (fun q9 => absurd q9 (by decide +kernel))
          exact k_rv B hP hD hS dX6_feedNumber_51 ((fun k9 => match k9 with | 0 => y_41p2p42p48p42p48p42p48 | _ => 0), (fun _ => 0), (fun k9 => match k9 with | 0 => (upd (upd (upd (upd f0_0 v0_1.toNatClampNeg y_33p2) y_41p2.toNatClampNeg y_33p2p42p48) y_41p2p42p48.toNatClampNeg y_33p2p42p48p42p48) y_41p2p42p48p42p48.toNatClampNeg y_33p2p42p48p42p48p42p48) | _ => (fun _ => 0)), (fun _ => (fun _ => 0)), (fun _ => 0)) [0, 1] rfl rfl (Nat.le_of_ble_eq_true rfl) (Nat.le_of_ble_eq_true rfl) ⟨(show iR y_41p2p42p48p42p48p42p48 4 1584 from f_41p2p42p48p42p48p42p48_8), (show aR (upd (upd (upd (upd f0_0 v0_1.toNatClampNeg y_33p2) y_41p2.toNatClampNeg y_33p2p42p48) y_41p2p42p48.toNatClampNeg y_33p2p42p48p42p48) y_41p2p42p48p42p48.toNatClampNeg y_33p2p42p48p42p48p42p48) 0 255 from (aR_upd _ (aR_upd _ (aR_upd _ (aR_upd _ hf0_0 f_33p2_1) f_33p2p42p48_3) f_33p2p42p48p42p48_5) f_33p2p42p48p42p48p42p48_7)), (show y_41p2p42p48p42p48p42p48 = tn4 v0_1 from (by rw [ey_41p2p42p48p42p48p42p48, ey_41p2p42p48p42p48, ey_41p2p42p48, ey_41p2]; rfl)), (show (upd (upd (upd (upd f0_0 v0_1.toNatClampNeg y_33p2) y_41p2.toNatClampNeg y_33p2p42p48) y_41p2p42p48.toNatClampNeg y_33p2p42p48p42p48) y_41p2p42p48p42p48.toNatClampNeg y_33p2p42p48p42p48p42p48) = tp4 f0_0 v0_1 x1 from (by rw [ey_33p2p42p48p42p48p42p48, ey_29p2p42p48p42p48p42p48, ey_41p2p42p48p42p48, ey_33p2p42p48p42p48, ey_29p2p42p48p42p48, ey_41p2p42p48, ey_33p2p42p48, ey_29p2p42p48, ey_41p2, ey_33p2, ey_29p2, byu24, byu16, byu8, byu0]; rfl))⟩
set_option maxHeartbeats 8000000 in
set_option maxRecDepth 100000 in
theorem s_X6_feedNumber_v6 (l : Launch) (dC : Nat → ClassId) (dI : Nat → Nat → Nat) (cI cJ cZ cM : ClassId) (a0 : Nat) (x1 : Int32) (a0_0 : Nat) (f0_0 : Nat → Int32) (v0_1 : Int32) (b0_2 : Nat) (b0_3 : Nat) (b0_4 : Nat) (b0_5 : Nat) (b0_6 : Nat) (b0_7 : Nat) (b0_8 : Nat) (v0_10 : Int32) (v0_11 : Int32) (v0_12 : Int32) (b0_13 : Nat) (b0_14 : Nat) (b0_15 : Nat) (a0_16 : Nat) (hxv0_1 : iR v0_1 4 1584) (hv0_1 : iR v0_1 0 1600) (hv0_11 : iR v0_11 1 65535) (hv0_12 : iR v0_12 (-1) 999) (hf0_0 : aR f0_0 0 255) : k_Mv l yX6_feedNumber wsX6_feedNumber ({ frames := 1, cells := 0, slots := 0, locals := 40 }) (dC, dI) vwCl (tyy cI cJ cZ cM) [(a0, .inr (6, [.ref a0_0, .int v0_1, .ref b0_2, .ref b0_3, .ref b0_4, .ref b0_5, .ref b0_6, .ref b0_7, .ref b0_8, .null, .int v0_10, .int v0_11, .int v0_12, .ref b0_13, .ref b0_14, .ref b0_15, .ref a0_16])), (a0_0, .inl (cI, 1600, .inl f0_0))] [.ref a0, .int x1] 0 0 (fun (u9 : SU) => [(a0, .inr (6, [.ref a0_0, .int (u9.1 0), .ref b0_2, .ref b0_3, .ref b0_4, .ref b0_5, .ref b0_6, .ref b0_7, .ref b0_8, .null, .int v0_10, .int v0_11, .int v0_12, .ref b0_13, .ref b0_14, .ref b0_15, .ref a0_16])), (a0_0, .inl (cI, 1600, .inl (u9.2.2.1 0)))]) (fun (u9 : SU) => (iR (u9.1 0) 8 1588) ∧ (aR (u9.2.2.1 0) 0 255) ∧ ((u9.1 0) = tn4 v0_1) ∧ ((u9.2.2.1 0) = tp4 f0_0 v0_1 x1)) := by
  refine fun sz => k_enter (cc := cX6_feedNumber) (maxL := 3) (ret := none) (Qc := fun A => va_Qv (fun (u9 : SU) => (iR (u9.1 0) 8 1588) ∧ (aR (u9.2.2.1 0) 0 255) ∧ ((u9.1 0) = tn4 v0_1) ∧ ((u9.2.2.1 0) = tp4 f0_0 v0_1 x1)) (fun u => k_B (dC, dI) vwCl (tyy cI cJ cZ cM) A ((fun (u9 : SU) => [(a0, .inr (6, [.ref a0_0, .int (u9.1 0), .ref b0_2, .ref b0_3, .ref b0_4, .ref b0_5, .ref b0_6, .ref b0_7, .ref b0_8, .null, .int v0_10, .int v0_11, .int v0_12, .ref b0_13, .ref b0_14, .ref b0_15, .ref a0_16])), (a0_0, .inl (cI, 1600, .inl (u9.2.2.1 0)))]) u)) A) sz (by decide +kernel) rfl (Nat.le_of_ble_eq_true rfl) (fun p e s m args below meth c A ls H locs B hP hD hS hl => ?_)
  obtain ⟨hx, hb, hml, hown, hts, hr, hlk, hnm, hK, hA, hN, hC⟩ := id B
  have hown : s.vm.findClass RX6 = some m.cls := hown
  have hl : lv_has ls 3 [(0, .ref a0), (1, .int x1)] := hl
  have w_0 : (Cond.fieldLink RX6 92 "WishSea" "tapeLength" "I").before args s = true := hts _ (List.mem_of_getElem? (i := 1) rfl)
  have w_1 : (Cond.fieldLink RX6 9 "WishSea" "tape" "[I").before args s = true := hts _ (List.mem_of_getElem? (i := 2) rfl)
  have hinX6 : ∀ w ∈ u_ws RX6 TX6 17, w ∈ wsX6_feedNumber := fun _ h => List.mem_cons_of_mem _ (List.mem_append_right _ h)
  refine lv_bipush (v := 24) hx hb dX6_feedNumber_0 (by decide +kernel) ?_
  refine lv_istore_n (lv' := [(2, .int 24), (0, .ref a0), (1, .int x1)]) hx hb dX6_feedNumber_2 rfl hl (by decide) rfl (fun ls hl => ?_)
  refine lv_iload_n hx hb dX6_feedNumber_3 rfl (lv_at hl 0 rfl) ?_
  refine lv_if_lt (tgt := 51) hx hb dX6_feedNumber_4 (by decide) (fun q9 => absurd q9 (by decide +kernel)) (fun _ => ?_)
  refine lv_aload_n hx hb dX6_feedNumber_7 rfl (lv_at hl 1 rfl) ?_
  refine k_get (D := (dC, dI)) (ci := 6) (v := .int v0_1) (C := RX6) (T := TX6) (N := 17) hx hb hts hinX6 hown hK hP 0 rfl rfl 1 (by decide) w_0 rfl rfl dX6_feedNumber_8 ?_
  refine lv_aload_n hx hb dX6_feedNumber_11 rfl (lv_at hl 1 rfl) ?_
  refine k_get (D := (dC, dI)) (ci := 6) (v := .ref a0_0) (C := RX6) (T := TX6) (N := 17) hx hb hts hinX6 hown hK hP 0 rfl rfl 0 (by decide) w_1 rfl rfl dX6_feedNumber_12 ?_
  refine va_alen (v := 1600) hx hb hK hP 1 0 rfl rfl rfl dX6_feedNumber_15 ?_
  refine lv_icmp_ge (tgt := 45) hx hb dX6_feedNumber_16 (by decide) (fun c_16p2 => ?_) (fun c_16p2 => ?_)
  · exact iR_cl (iR_leL (a' := 1600) (b' := 1584) c_16p2 (iR_c (n := 1600) (a := 1600) (b := 1600) (by decide +kernel) (by decide +kernel)) hxv0_1 (by decide +kernel)) (by decide +kernel)
  · have c_16p2 : v0_1 < 1600 := i_nle c_16p2
    refine lv_aload_n hx hb dX6_feedNumber_19 rfl (lv_at hl 1 rfl) ?_
    refine k_get (D := (dC, dI)) (ci := 6) (v := .ref a0_0) (C := RX6) (T := TX6) (N := 17) hx hb hts hinX6 hown hK hP 0 rfl rfl 0 (by decide) w_1 rfl rfl dX6_feedNumber_20 ?_
    refine lv_aload_n hx hb dX6_feedNumber_23 rfl (lv_at hl 1 rfl) ?_
    refine k_get (D := (dC, dI)) (ci := 6) (v := .int v0_1) (C := RX6) (T := TX6) (N := 17) hx hb hts hinX6 hown hK hP 0 rfl rfl 1 (by decide) w_0 rfl rfl dX6_feedNumber_24 ?_
    refine lv_iload_n hx hb dX6_feedNumber_27 rfl (lv_at hl 2 rfl) ?_
    refine lv_iload_n hx hb dX6_feedNumber_28 rfl (lv_at hl 0 rfl) ?_
    refine lv_iushr (v := (x1.toUInt32 >>> ((24 : Int32).toUInt32 &&& Int32.toUInt32 31)).toInt32) hx hb dX6_feedNumber_29 rfl ?_
    refine lv_topi (fun y_29p2 ey_29p2 => ?_)
    refine lv_sipush (v := 255) hx hb dX6_feedNumber_30 (by decide +kernel) ?_
    refine lv_iand hx hb dX6_feedNumber_33 ?_
    refine lv_topi (fun y_33p2 ey_33p2 => ?_)
    have f_33p2_1 : iR y_33p2 0 255 := iR_andR ey_33p2 (iR_c (n := 255) (a := 255) (b := 255) (by decide +kernel) (by decide +kernel)) (by decide +kernel)
    refine s_iast (g := (upd f0_0 v0_1.toNatClampNeg y_33p2)) (ws' := [(a0, .inr (6, [.ref a0_0, .int v0_1, .ref b0_2, .ref b0_3, .ref b0_4, .ref b0_5, .ref b0_6, .ref b0_7, .ref b0_8, .null, .int v0_10, .int v0_11, .int v0_12, .ref b0_13, .ref b0_14, .ref b0_15, .ref a0_16])), (a0_0, .inl (cI, 1600, .inl (upd f0_0 v0_1.toNatClampNeg y_33p2)))]) hx hb hK hP hD hS 1 0 rfl rfl (iR_vp hxv0_1 (by decide +kernel)) rfl rfl dX6_feedNumber_34 (fun H locs hP hD hS => ?_)
    refine lv_aload_n hx hb dX6_feedNumber_35 rfl (lv_at hl 1 rfl) ?_
    refine lv_dup hx hb dX6_feedNumber_36 rfl ?_
    refine k_get (D := (dC, dI)) (ci := 6) (v := .int v0_1) (C := RX6) (T := TX6) (N := 17) hx hb hts hinX6 hown hK hP 0 rfl rfl 1 (by decide) w_0 rfl rfl dX6_feedNumber_37 ?_
    refine lv_iconst (v := 1) hx hb dX6_feedNumber_40 (by decide +kernel) ?_
    refine lv_iadd hx hb dX6_feedNumber_41 ?_
    refine lv_topi (fun y_41p2 ey_41p2 => ?_)
    have f_41p2_2 : iR y_41p2 5 1585 := iR_add ey_41p2 hxv0_1 (iR_c (n := 1) (a := 1) (b := 1) (by decide +kernel) (by decide +kernel)) (by decide +kernel)
    refine k_put (D := (dC, dI)) (ci := 6) (v := .int y_41p2) (C := RX6) (T := TX6) (N := 17) (ws' := [(a0, .inr (6, [.ref a0_0, .int y_41p2, .ref b0_2, .ref b0_3, .ref b0_4, .ref b0_5, .ref b0_6, .ref b0_7, .ref b0_8, .null, .int v0_10, .int v0_11, .int v0_12, .ref b0_13, .ref b0_14, .ref b0_15, .ref a0_16])), (a0_0, .inl (cI, 1600, .inl (upd f0_0 v0_1.toNatClampNeg y_33p2)))]) hx hb hts hinX6 tyX6 tyX6_ok nmX6 hown hK hP hD hS 0 rfl rfl 1 (by decide) w_0 rfl rfl rfl rfl (Nat.le_of_ble_eq_true rfl) rfl dX6_feedNumber_42 (fun H locs hP hD hS => ?_)
    refine lv_iinc (v := 16) (lv' := [(2, .int 16), (0, .ref a0), (1, .int x1)]) hx hb dX6_feedNumber_45 hl (k := 0) rfl (by decide +kernel) (by decide) rfl (fun ls hl => ?_)
    refine lv_goto (tgt := 3) hx hb dX6_feedNumber_48 (by decide) ?_
    refine lv_iload_n hx hb dX6_feedNumber_3 rfl (lv_at hl 0 rfl) ?_
    refine lv_if_lt (tgt := 51) hx hb dX6_feedNumber_4 (by decide) (fun q9 => absurd q9 (by decide +kernel)) (fun _ => ?_)
    refine lv_aload_n hx hb dX6_feedNumber_7 rfl (lv_at hl 1 rfl) ?_
    refine k_get (D := (dC, dI)) (ci := 6) (v := .int y_41p2) (C := RX6) (T := TX6) (N := 17) hx hb hts hinX6 hown hK hP 0 rfl rfl 1 (by decide) w_0 rfl rfl dX6_feedNumber_8 ?_
    refine lv_aload_n hx hb dX6_feedNumber_11 rfl (lv_at hl 1 rfl) ?_
    refine k_get (D := (dC, dI)) (ci := 6) (v := .ref a0_0) (C := RX6) (T := TX6) (N := 17) hx hb hts hinX6 hown hK hP 0 rfl rfl 0 (by decide) w_1 rfl rfl dX6_feedNumber_12 ?_
    refine va_alen (v := 1600) hx hb hK hP 1 0 rfl rfl rfl dX6_feedNumber_15 ?_
    refine lv_icmp_ge (tgt := 45) hx hb dX6_feedNumber_16 (by decide) (fun c_16p2p42p48 => ?_) (fun c_16p2p42p48 => ?_)
    · exact iR_cl (iR_leL (a' := 1600) (b' := 1585) c_16p2p42p48 (iR_c (n := 1600) (a := 1600) (b := 1600) (by decide +kernel) (by decide +kernel)) f_41p2_2 (by decide +kernel)) (by decide +kernel)
    · have c_16p2p42p48 : y_41p2 < 1600 := i_nle c_16p2p42p48
      refine lv_aload_n hx hb dX6_feedNumber_19 rfl (lv_at hl 1 rfl) ?_
      refine k_get (D := (dC, dI)) (ci := 6) (v := .ref a0_0) (C := RX6) (T := TX6) (N := 17) hx hb hts hinX6 hown hK hP 0 rfl rfl 0 (by decide) w_1 rfl rfl dX6_feedNumber_20 ?_
      refine lv_aload_n hx hb dX6_feedNumber_23 rfl (lv_at hl 1 rfl) ?_
      refine k_get (D := (dC, dI)) (ci := 6) (v := .int y_41p2) (C := RX6) (T := TX6) (N := 17) hx hb hts hinX6 hown hK hP 0 rfl rfl 1 (by decide) w_0 rfl rfl dX6_feedNumber_24 ?_
      refine lv_iload_n hx hb dX6_feedNumber_27 rfl (lv_at hl 2 rfl) ?_
      refine lv_iload_n hx hb dX6_feedNumber_28 rfl (lv_at hl 0 rfl) ?_
      refine lv_iushr (v := (x1.toUInt32 >>> ((16 : Int32).toUInt32 &&& Int32.toUInt32 31)).toInt32) hx hb dX6_feedNumber_29 rfl ?_
      refine lv_topi (fun y_29p2p42p48 ey_29p2p42p48 => ?_)
      refine lv_sipush (v := 255) hx hb dX6_feedNumber_30 (by decide +kernel) ?_
      refine lv_iand hx hb dX6_feedNumber_33 ?_
      refine lv_topi (fun y_33p2p42p48 ey_33p2p42p48 => ?_)
      have f_33p2p42p48_3 : iR y_33p2p42p48 0 255 := iR_andR ey_33p2p42p48 (iR_c (n := 255) (a := 255) (b := 255) (by decide +kernel) (by decide +kernel)) (by decide +kernel)
      refine s_iast (g := (upd (upd f0_0 v0_1.toNatClampNeg y_33p2) y_41p2.toNatClampNeg y_33p2p42p48)) (ws' := [(a0, .inr (6, [.ref a0_0, .int y_41p2, .ref b0_2, .ref b0_3, .ref b0_4, .ref b0_5, .ref b0_6, .ref b0_7, .ref b0_8, .null, .int v0_10, .int v0_11, .int v0_12, .ref b0_13, .ref b0_14, .ref b0_15, .ref a0_16])), (a0_0, .inl (cI, 1600, .inl (upd (upd f0_0 v0_1.toNatClampNeg y_33p2) y_41p2.toNatClampNeg y_33p2p42p48)))]) hx hb hK hP hD hS 1 0 rfl rfl (iR_vp f_41p2_2 (by decide +kernel)) rfl rfl dX6_feedNumber_34 (fun H locs hP hD hS => ?_)
      refine lv_aload_n hx hb dX6_feedNumber_35 rfl (lv_at hl 1 rfl) ?_
      refine lv_dup hx hb dX6_feedNumber_36 rfl ?_
      refine k_get (D := (dC, dI)) (ci := 6) (v := .int y_41p2) (C := RX6) (T := TX6) (N := 17) hx hb hts hinX6 hown hK hP 0 rfl rfl 1 (by decide) w_0 rfl rfl dX6_feedNumber_37 ?_
      refine lv_iconst (v := 1) hx hb dX6_feedNumber_40 (by decide +kernel) ?_
      refine lv_iadd hx hb dX6_feedNumber_41 ?_
      refine lv_topi (fun y_41p2p42p48 ey_41p2p42p48 => ?_)
      have f_41p2p42p48_4 : iR y_41p2p42p48 6 1586 := iR_add ey_41p2p42p48 f_41p2_2 (iR_c (n := 1) (a := 1) (b := 1) (by decide +kernel) (by decide +kernel)) (by decide +kernel)
      refine k_put (D := (dC, dI)) (ci := 6) (v := .int y_41p2p42p48) (C := RX6) (T := TX6) (N := 17) (ws' := [(a0, .inr (6, [.ref a0_0, .int y_41p2p42p48, .ref b0_2, .ref b0_3, .ref b0_4, .ref b0_5, .ref b0_6, .ref b0_7, .ref b0_8, .null, .int v0_10, .int v0_11, .int v0_12, .ref b0_13, .ref b0_14, .ref b0_15, .ref a0_16])), (a0_0, .inl (cI, 1600, .inl (upd (upd f0_0 v0_1.toNatClampNeg y_33p2) y_41p2.toNatClampNeg y_33p2p42p48)))]) hx hb hts hinX6 tyX6 tyX6_ok nmX6 hown hK hP hD hS 0 rfl rfl 1 (by decide) w_0 rfl rfl rfl rfl (Nat.le_of_ble_eq_true rfl) rfl dX6_feedNumber_42 (fun H locs hP hD hS => ?_)
      refine lv_iinc (v := 8) (lv' := [(2, .int 8), (0, .ref a0), (1, .int x1)]) hx hb dX6_feedNumber_45 hl (k := 0) rfl (by decide +kernel) (by decide) rfl (fun ls hl => ?_)
      refine lv_goto (tgt := 3) hx hb dX6_feedNumber_48 (by decide) ?_
      refine lv_iload_n hx hb dX6_feedNumber_3 rfl (lv_at hl 0 rfl) ?_
      refine lv_if_lt (tgt := 51) hx hb dX6_feedNumber_4 (by decide) (fun q9 => absurd q9 (by decide +kernel)) (fun _ => ?_)
      refine lv_aload_n hx hb dX6_feedNumber_7 rfl (lv_at hl 1 rfl) ?_
      refine k_get (D := (dC, dI)) (ci := 6) (v := .int y_41p2p42p48) (C := RX6) (T := TX6) (N := 17) hx hb hts hinX6 hown hK hP 0 rfl rfl 1 (by decide) w_0 rfl rfl dX6_feedNumber_8 ?_
      refine lv_aload_n hx hb dX6_feedNumber_11 rfl (lv_at hl 1 rfl) ?_
      refine k_get (D := (dC, dI)) (ci := 6) (v := .ref a0_0) (C := RX6) (T := TX6) (N := 17) hx hb hts hinX6 hown hK hP 0 rfl rfl 0 (by decide) w_1 rfl rfl dX6_feedNumber_12 ?_
      refine va_alen (v := 1600) hx hb hK hP 1 0 rfl rfl rfl dX6_feedNumber_15 ?_
      refine lv_icmp_ge (tgt := 45) hx hb dX6_feedNumber_16 (by decide) (fun c_16p2p42p48p42p48 => ?_) (fun c_16p2p42p48p42p48 => ?_)
      · exact iR_cl (iR_leL (a' := 1600) (b' := 1586) c_16p2p42p48p42p48 (iR_c (n := 1600) (a := 1600) (b := 1600) (by decide +kernel) (by decide +kernel)) f_41p2p42p48_4 (by decide +kernel)) (by decide +kernel)
      · have c_16p2p42p48p42p48 : y_41p2p42p48 < 1600 := i_nle c_16p2p42p48p42p48
        refine lv_aload_n hx hb dX6_feedNumber_19 rfl (lv_at hl 1 rfl) ?_
        refine k_get (D := (dC, dI)) (ci := 6) (v := .ref a0_0) (C := RX6) (T := TX6) (N := 17) hx hb hts hinX6 hown hK hP 0 rfl rfl 0 (by decide) w_1 rfl rfl dX6_feedNumber_20 ?_
        refine lv_aload_n hx hb dX6_feedNumber_23 rfl (lv_at hl 1 rfl) ?_
        refine k_get (D := (dC, dI)) (ci := 6) (v := .int y_41p2p42p48) (C := RX6) (T := TX6) (N := 17) hx hb hts hinX6 hown hK hP 0 rfl rfl 1 (by decide) w_0 rfl rfl dX6_feedNumber_24 ?_
        refine lv_iload_n hx hb dX6_feedNumber_27 rfl (lv_at hl 2 rfl) ?_
        refine lv_iload_n hx hb dX6_feedNumber_28 rfl (lv_at hl 0 rfl) ?_
        refine lv_iushr (v := (x1.toUInt32 >>> ((8 : Int32).toUInt32 &&& Int32.toUInt32 31)).toInt32) hx hb dX6_feedNumber_29 rfl ?_
        refine lv_topi (fun y_29p2p42p48p42p48 ey_29p2p42p48p42p48 => ?_)
        refine lv_sipush (v := 255) hx hb dX6_feedNumber_30 (by decide +kernel) ?_
        refine lv_iand hx hb dX6_feedNumber_33 ?_
        refine lv_topi (fun y_33p2p42p48p42p48 ey_33p2p42p48p42p48 => ?_)
        have f_33p2p42p48p42p48_5 : iR y_33p2p42p48p42p48 0 255 := iR_andR ey_33p2p42p48p42p48 (iR_c (n := 255) (a := 255) (b := 255) (by decide +kernel) (by decide +kernel)) (by decide +kernel)
        refine s_iast (g := (upd (upd (upd f0_0 v0_1.toNatClampNeg y_33p2) y_41p2.toNatClampNeg y_33p2p42p48) y_41p2p42p48.toNatClampNeg y_33p2p42p48p42p48)) (ws' := [(a0, .inr (6, [.ref a0_0, .int y_41p2p42p48, .ref b0_2, .ref b0_3, .ref b0_4, .ref b0_5, .ref b0_6, .ref b0_7, .ref b0_8, .null, .int v0_10, .int v0_11, .int v0_12, .ref b0_13, .ref b0_14, .ref b0_15, .ref a0_16])), (a0_0, .inl (cI, 1600, .inl (upd (upd (upd f0_0 v0_1.toNatClampNeg y_33p2) y_41p2.toNatClampNeg y_33p2p42p48) y_41p2p42p48.toNatClampNeg y_33p2p42p48p42p48)))]) hx hb hK hP hD hS 1 0 rfl rfl (iR_vp f_41p2p42p48_4 (by decide +kernel)) rfl rfl dX6_feedNumber_34 (fun H locs hP hD hS => ?_)
        refine lv_aload_n hx hb dX6_feedNumber_35 rfl (lv_at hl 1 rfl) ?_
        refine lv_dup hx hb dX6_feedNumber_36 rfl ?_
        refine k_get (D := (dC, dI)) (ci := 6) (v := .int y_41p2p42p48) (C := RX6) (T := TX6) (N := 17) hx hb hts hinX6 hown hK hP 0 rfl rfl 1 (by decide) w_0 rfl rfl dX6_feedNumber_37 ?_
        refine lv_iconst (v := 1) hx hb dX6_feedNumber_40 (by decide +kernel) ?_
        refine lv_iadd hx hb dX6_feedNumber_41 ?_
        refine lv_topi (fun y_41p2p42p48p42p48 ey_41p2p42p48p42p48 => ?_)
        have f_41p2p42p48p42p48_6 : iR y_41p2p42p48p42p48 7 1587 := iR_add ey_41p2p42p48p42p48 f_41p2p42p48_4 (iR_c (n := 1) (a := 1) (b := 1) (by decide +kernel) (by decide +kernel)) (by decide +kernel)
        refine k_put (D := (dC, dI)) (ci := 6) (v := .int y_41p2p42p48p42p48) (C := RX6) (T := TX6) (N := 17) (ws' := [(a0, .inr (6, [.ref a0_0, .int y_41p2p42p48p42p48, .ref b0_2, .ref b0_3, .ref b0_4, .ref b0_5, .ref b0_6, .ref b0_7, .ref b0_8, .null, .int v0_10, .int v0_11, .int v0_12, .ref b0_13, .ref b0_14, .ref b0_15, .ref a0_16])), (a0_0, .inl (cI, 1600, .inl (upd (upd (upd f0_0 v0_1.toNatClampNeg y_33p2) y_41p2.toNatClampNeg y_33p2p42p48) y_41p2p42p48.toNatClampNeg y_33p2p42p48p42p48)))]) hx hb hts hinX6 tyX6 tyX6_ok nmX6 hown hK hP hD hS 0 rfl rfl 1 (by decide) w_0 rfl rfl rfl rfl (Nat.le_of_ble_eq_true rfl) rfl dX6_feedNumber_42 (fun H locs hP hD hS => ?_)
        refine lv_iinc (v := 0) (lv' := [(2, .int 0), (0, .ref a0), (1, .int x1)]) hx hb dX6_feedNumber_45 hl (k := 0) rfl (by decide +kernel) (by decide) rfl (fun ls hl => ?_)
        refine lv_goto (tgt := 3) hx hb dX6_feedNumber_48 (by decide) ?_
        refine lv_iload_n hx hb dX6_feedNumber_3 rfl (lv_at hl 0 rfl) ?_
        refine lv_if_lt (tgt := 51) hx hb dX6_feedNumber_4 (by decide) (fun q9 => absurd q9 (by decide +kernel)) (fun _ => ?_)
        refine lv_aload_n hx hb dX6_feedNumber_7 rfl (lv_at hl 1 rfl) ?_
        refine k_get (D := (dC, dI)) (ci := 6) (v := .int y_41p2p42p48p42p48) (C := RX6) (T := TX6) (N := 17) hx hb hts hinX6 hown hK hP 0 rfl rfl 1 (by decide) w_0 rfl rfl dX6_feedNumber_8 ?_
        refine lv_aload_n hx hb dX6_feedNumber_11 rfl (lv_at hl 1 rfl) ?_
        refine k_get (D := (dC, dI)) (ci := 6) (v := .ref a0_0) (C := RX6) (T := TX6) (N := 17) hx hb hts hinX6 hown hK hP 0 rfl rfl 0 (by decide) w_1 rfl rfl dX6_feedNumber_12 ?_
        refine va_alen (v := 1600) hx hb hK hP 1 0 rfl rfl rfl dX6_feedNumber_15 ?_
        refine lv_icmp_ge (tgt := 45) hx hb dX6_feedNumber_16 (by decide) (fun c_16p2p42p48p42p48p42p48 => ?_) (fun c_16p2p42p48p42p48p42p48 => ?_)
        · exact iR_cl (iR_leL (a' := 1600) (b' := 1587) c_16p2p42p48p42p48p42p48 (iR_c (n := 1600) (a := 1600) (b := 1600) (by decide +kernel) (by decide +kernel)) f_41p2p42p48p42p48_6 (by decide +kernel)) (by decide +kernel)
        · have c_16p2p42p48p42p48p42p48 : y_41p2p42p48p42p48 < 1600 := i_nle c_16p2p42p48p42p48p42p48
          refine lv_aload_n hx hb dX6_feedNumber_19 rfl (lv_at hl 1 rfl) ?_
          refine k_get (D := (dC, dI)) (ci := 6) (v := .ref a0_0) (C := RX6) (T := TX6) (N := 17) hx hb hts hinX6 hown hK hP 0 rfl rfl 0 (by decide) w_1 rfl rfl dX6_feedNumber_20 ?_
          refine lv_aload_n hx hb dX6_feedNumber_23 rfl (lv_at hl 1 rfl) ?_
          refine k_get (D := (dC, dI)) (ci := 6) (v := .int y_41p2p42p48p42p48) (C := RX6) (T := TX6) (N := 17) hx hb hts hinX6 hown hK hP 0 rfl rfl 1 (by decide) w_0 rfl rfl dX6_feedNumber_24 ?_
          refine lv_iload_n hx hb dX6_feedNumber_27 rfl (lv_at hl 2 rfl) ?_
          refine lv_iload_n hx hb dX6_feedNumber_28 rfl (lv_at hl 0 rfl) ?_
          refine lv_iushr (v := (x1.toUInt32 >>> ((0 : Int32).toUInt32 &&& Int32.toUInt32 31)).toInt32) hx hb dX6_feedNumber_29 rfl ?_
          refine lv_topi (fun y_29p2p42p48p42p48p42p48 ey_29p2p42p48p42p48p42p48 => ?_)
          refine lv_sipush (v := 255) hx hb dX6_feedNumber_30 (by decide +kernel) ?_
          refine lv_iand hx hb dX6_feedNumber_33 ?_
          refine lv_topi (fun y_33p2p42p48p42p48p42p48 ey_33p2p42p48p42p48p42p48 => ?_)
          have f_33p2p42p48p42p48p42p48_7 : iR y_33p2p42p48p42p48p42p48 0 255 := iR_andR ey_33p2p42p48p42p48p42p48 (iR_c (n := 255) (a := 255) (b := 255) (by decide +kernel) (by decide +kernel)) (by decide +kernel)
          refine s_iast (g := (upd (upd (upd (upd f0_0 v0_1.toNatClampNeg y_33p2) y_41p2.toNatClampNeg y_33p2p42p48) y_41p2p42p48.toNatClampNeg y_33p2p42p48p42p48) y_41p2p42p48p42p48.toNatClampNeg y_33p2p42p48p42p48p42p48)) (ws' := [(a0, .inr (6, [.ref a0_0, .int y_41p2p42p48p42p48, .ref b0_2, .ref b0_3, .ref b0_4, .ref b0_5, .ref b0_6, .ref b0_7, .ref b0_8, .null, .int v0_10, .int v0_11, .int v0_12, .ref b0_13, .ref b0_14, .ref b0_15, .ref a0_16])), (a0_0, .inl (cI, 1600, .inl (upd (upd (upd (upd f0_0 v0_1.toNatClampNeg y_33p2) y_41p2.toNatClampNeg y_33p2p42p48) y_41p2p42p48.toNatClampNeg y_33p2p42p48p42p48) y_41p2p42p48p42p48.toNatClampNeg y_33p2p42p48p42p48p42p48)))]) hx hb hK hP hD hS 1 0 rfl rfl (iR_vp f_41p2p42p48p42p48_6 (by decide +kernel)) rfl rfl dX6_feedNumber_34 (fun H locs hP hD hS => ?_)
          refine lv_aload_n hx hb dX6_feedNumber_35 rfl (lv_at hl 1 rfl) ?_
          refine lv_dup hx hb dX6_feedNumber_36 rfl ?_
          refine k_get (D := (dC, dI)) (ci := 6) (v := .int y_41p2p42p48p42p48) (C := RX6) (T := TX6) (N := 17) hx hb hts hinX6 hown hK hP 0 rfl rfl 1 (by decide) w_0 rfl rfl dX6_feedNumber_37 ?_
          refine lv_iconst (v := 1) hx hb dX6_feedNumber_40 (by decide +kernel) ?_
          refine lv_iadd hx hb dX6_feedNumber_41 ?_
          refine lv_topi (fun y_41p2p42p48p42p48p42p48 ey_41p2p42p48p42p48p42p48 => ?_)
          have f_41p2p42p48p42p48p42p48_8 : iR y_41p2p42p48p42p48p42p48 8 1588 := iR_add ey_41p2p42p48p42p48p42p48 f_41p2p42p48p42p48_6 (iR_c (n := 1) (a := 1) (b := 1) (by decide +kernel) (by decide +kernel)) (by decide +kernel)
          refine k_put (D := (dC, dI)) (ci := 6) (v := .int y_41p2p42p48p42p48p42p48) (C := RX6) (T := TX6) (N := 17) (ws' := [(a0, .inr (6, [.ref a0_0, .int y_41p2p42p48p42p48p42p48, .ref b0_2, .ref b0_3, .ref b0_4, .ref b0_5, .ref b0_6, .ref b0_7, .ref b0_8, .null, .int v0_10, .int v0_11, .int v0_12, .ref b0_13, .ref b0_14, .ref b0_15, .ref a0_16])), (a0_0, .inl (cI, 1600, .inl (upd (upd (upd (upd f0_0 v0_1.toNatClampNeg y_33p2) y_41p2.toNatClampNeg y_33p2p42p48) y_41p2p42p48.toNatClampNeg y_33p2p42p48p42p48) y_41p2p42p48p42p48.toNatClampNeg y_33p2p42p48p42p48p42p48)))]) hx hb hts hinX6 tyX6 tyX6_ok nmX6 hown hK hP hD hS 0 rfl rfl 1 (by decide) w_0 rfl rfl rfl rfl (Nat.le_of_ble_eq_true rfl) rfl dX6_feedNumber_42 (fun H locs hP hD hS => ?_)
          refine lv_iinc (v := (-8)) (lv' := [(2, .int (-8)), (0, .ref a0), (1, .int x1)]) hx hb dX6_feedNumber_45 hl (k := 0) rfl (by decide +kernel) (by decide) rfl (fun ls hl => ?_)
          refine lv_goto (tgt := 3) hx hb dX6_feedNumber_48 (by decide) ?_
          refine lv_iload_n hx hb dX6_feedNumber_3 rfl (lv_at hl 0 rfl) ?_
          refine lv_if_lt (tgt := 51) hx hb dX6_feedNumber_4 (by decide) (fun _ => ?_) (fun q9 => absurd q9 (by decide +kernel))
          exact k_rv B hP hD hS dX6_feedNumber_51 ((fun k9 => match k9 with | 0 => y_41p2p42p48p42p48p42p48 | _ => 0), (fun _ => 0), (fun k9 => match k9 with | 0 => (upd (upd (upd (upd f0_0 v0_1.toNatClampNeg y_33p2) y_41p2.toNatClampNeg y_33p2p42p48) y_41p2p42p48.toNatClampNeg y_33p2p42p48p42p48) y_41p2p42p48p42p48.toNatClampNeg y_33p2p42p48p42p48p42p48) | _ => (fun _ => 0)), (fun _ => (fun _ => 0)), (fun _ => 0)) [0, 1] rfl rfl (Nat.le_of_ble_eq_true rfl) (Nat.le_of_ble_eq_true rfl) ⟨(show iR y_41p2p42p48p42p48p42p48 8 1588 from f_41p2p42p48p42p48p42p48_8), (show aR (upd (upd (upd (upd f0_0 v0_1.toNatClampNeg y_33p2) y_41p2.toNatClampNeg y_33p2p42p48) y_41p2p42p48.toNatClampNeg y_33p2p42p48p42p48) y_41p2p42p48p42p48.toNatClampNeg y_33p2p42p48p42p48p42p48) 0 255 from (aR_upd _ (aR_upd _ (aR_upd _ (aR_upd _ hf0_0 f_33p2_1) f_33p2p42p48_3) f_33p2p42p48p42p48_5) f_33p2p42p48p42p48p42p48_7)), (show y_41p2p42p48p42p48p42p48 = tn4 v0_1 from (by rw [ey_41p2p42p48p42p48p42p48, ey_41p2p42p48p42p48, ey_41p2p42p48, ey_41p2]; rfl)), (show (upd (upd (upd (upd f0_0 v0_1.toNatClampNeg y_33p2) y_41p2.toNatClampNeg y_33p2p42p48) y_41p2p42p48.toNatClampNeg y_33p2p42p48p42p48) y_41p2p42p48p42p48.toNatClampNeg y_33p2p42p48p42p48p42p48) = tp4 f0_0 v0_1 x1 from (by rw [ey_33p2p42p48p42p48p42p48, ey_29p2p42p48p42p48p42p48, ey_41p2p42p48p42p48, ey_33p2p42p48p42p48, ey_29p2p42p48p42p48, ey_41p2p42p48, ey_33p2p42p48, ey_29p2p42p48, ey_41p2, ey_33p2, ey_29p2, byu24, byu16, byu8, byu0]; rfl))⟩
set_option maxHeartbeats 8000000 in
set_option maxRecDepth 100000 in
theorem s_X6_feedNumber_v7 (l : Launch) (dC : Nat → ClassId) (dI : Nat → Nat → Nat) (cI cJ cZ cM : ClassId) (a0 : Nat) (x1 : Int32) (a0_0 : Nat) (f0_0 : Nat → Int32) (v0_1 : Int32) (b0_2 : Nat) (b0_3 : Nat) (b0_4 : Nat) (b0_5 : Nat) (b0_6 : Nat) (b0_7 : Nat) (b0_8 : Nat) (v0_10 : Int32) (v0_11 : Int32) (v0_12 : Int32) (b0_13 : Nat) (b0_14 : Nat) (b0_15 : Nat) (a0_16 : Nat) (hxv0_1 : iR v0_1 8 1588) (hv0_1 : iR v0_1 0 1600) (hv0_11 : iR v0_11 1 65535) (hv0_12 : iR v0_12 (-1) 999) (hf0_0 : aR f0_0 0 255) : k_Mv l yX6_feedNumber wsX6_feedNumber ({ frames := 1, cells := 0, slots := 0, locals := 40 }) (dC, dI) vwCl (tyy cI cJ cZ cM) [(a0, .inr (6, [.ref a0_0, .int v0_1, .ref b0_2, .ref b0_3, .ref b0_4, .ref b0_5, .ref b0_6, .ref b0_7, .ref b0_8, .null, .int v0_10, .int v0_11, .int v0_12, .ref b0_13, .ref b0_14, .ref b0_15, .ref a0_16])), (a0_0, .inl (cI, 1600, .inl f0_0))] [.ref a0, .int x1] 0 0 (fun (u9 : SU) => [(a0, .inr (6, [.ref a0_0, .int (u9.1 0), .ref b0_2, .ref b0_3, .ref b0_4, .ref b0_5, .ref b0_6, .ref b0_7, .ref b0_8, .null, .int v0_10, .int v0_11, .int v0_12, .ref b0_13, .ref b0_14, .ref b0_15, .ref a0_16])), (a0_0, .inl (cI, 1600, .inl (u9.2.2.1 0)))]) (fun (u9 : SU) => (iR (u9.1 0) 12 1592) ∧ (aR (u9.2.2.1 0) 0 255) ∧ ((u9.1 0) = tn4 v0_1) ∧ ((u9.2.2.1 0) = tp4 f0_0 v0_1 x1)) := by
  refine fun sz => k_enter (cc := cX6_feedNumber) (maxL := 3) (ret := none) (Qc := fun A => va_Qv (fun (u9 : SU) => (iR (u9.1 0) 12 1592) ∧ (aR (u9.2.2.1 0) 0 255) ∧ ((u9.1 0) = tn4 v0_1) ∧ ((u9.2.2.1 0) = tp4 f0_0 v0_1 x1)) (fun u => k_B (dC, dI) vwCl (tyy cI cJ cZ cM) A ((fun (u9 : SU) => [(a0, .inr (6, [.ref a0_0, .int (u9.1 0), .ref b0_2, .ref b0_3, .ref b0_4, .ref b0_5, .ref b0_6, .ref b0_7, .ref b0_8, .null, .int v0_10, .int v0_11, .int v0_12, .ref b0_13, .ref b0_14, .ref b0_15, .ref a0_16])), (a0_0, .inl (cI, 1600, .inl (u9.2.2.1 0)))]) u)) A) sz (by decide +kernel) rfl (Nat.le_of_ble_eq_true rfl) (fun p e s m args below meth c A ls H locs B hP hD hS hl => ?_)
  obtain ⟨hx, hb, hml, hown, hts, hr, hlk, hnm, hK, hA, hN, hC⟩ := id B
  have hown : s.vm.findClass RX6 = some m.cls := hown
  have hl : lv_has ls 3 [(0, .ref a0), (1, .int x1)] := hl
  have w_0 : (Cond.fieldLink RX6 92 "WishSea" "tapeLength" "I").before args s = true := hts _ (List.mem_of_getElem? (i := 1) rfl)
  have w_1 : (Cond.fieldLink RX6 9 "WishSea" "tape" "[I").before args s = true := hts _ (List.mem_of_getElem? (i := 2) rfl)
  have hinX6 : ∀ w ∈ u_ws RX6 TX6 17, w ∈ wsX6_feedNumber := fun _ h => List.mem_cons_of_mem _ (List.mem_append_right _ h)
  refine lv_bipush (v := 24) hx hb dX6_feedNumber_0 (by decide +kernel) ?_
  refine lv_istore_n (lv' := [(2, .int 24), (0, .ref a0), (1, .int x1)]) hx hb dX6_feedNumber_2 rfl hl (by decide) rfl (fun ls hl => ?_)
  refine lv_iload_n hx hb dX6_feedNumber_3 rfl (lv_at hl 0 rfl) ?_
  refine lv_if_lt (tgt := 51) hx hb dX6_feedNumber_4 (by decide) (fun q9 => absurd q9 (by decide +kernel)) (fun _ => ?_)
  refine lv_aload_n hx hb dX6_feedNumber_7 rfl (lv_at hl 1 rfl) ?_
  refine k_get (D := (dC, dI)) (ci := 6) (v := .int v0_1) (C := RX6) (T := TX6) (N := 17) hx hb hts hinX6 hown hK hP 0 rfl rfl 1 (by decide) w_0 rfl rfl dX6_feedNumber_8 ?_
  refine lv_aload_n hx hb dX6_feedNumber_11 rfl (lv_at hl 1 rfl) ?_
  refine k_get (D := (dC, dI)) (ci := 6) (v := .ref a0_0) (C := RX6) (T := TX6) (N := 17) hx hb hts hinX6 hown hK hP 0 rfl rfl 0 (by decide) w_1 rfl rfl dX6_feedNumber_12 ?_
  refine va_alen (v := 1600) hx hb hK hP 1 0 rfl rfl rfl dX6_feedNumber_15 ?_
  refine lv_icmp_ge (tgt := 45) hx hb dX6_feedNumber_16 (by decide) (fun c_16p2 => ?_) (fun c_16p2 => ?_)
  · exact iR_cl (iR_leL (a' := 1600) (b' := 1588) c_16p2 (iR_c (n := 1600) (a := 1600) (b := 1600) (by decide +kernel) (by decide +kernel)) hxv0_1 (by decide +kernel)) (by decide +kernel)
  · have c_16p2 : v0_1 < 1600 := i_nle c_16p2
    refine lv_aload_n hx hb dX6_feedNumber_19 rfl (lv_at hl 1 rfl) ?_
    refine k_get (D := (dC, dI)) (ci := 6) (v := .ref a0_0) (C := RX6) (T := TX6) (N := 17) hx hb hts hinX6 hown hK hP 0 rfl rfl 0 (by decide) w_1 rfl rfl dX6_feedNumber_20 ?_
    refine lv_aload_n hx hb dX6_feedNumber_23 rfl (lv_at hl 1 rfl) ?_
    refine k_get (D := (dC, dI)) (ci := 6) (v := .int v0_1) (C := RX6) (T := TX6) (N := 17) hx hb hts hinX6 hown hK hP 0 rfl rfl 1 (by decide) w_0 rfl rfl dX6_feedNumber_24 ?_
    refine lv_iload_n hx hb dX6_feedNumber_27 rfl (lv_at hl 2 rfl) ?_
    refine lv_iload_n hx hb dX6_feedNumber_28 rfl (lv_at hl 0 rfl) ?_
    refine lv_iushr (v := (x1.toUInt32 >>> ((24 : Int32).toUInt32 &&& Int32.toUInt32 31)).toInt32) hx hb dX6_feedNumber_29 rfl ?_
    refine lv_topi (fun y_29p2 ey_29p2 => ?_)
    refine lv_sipush (v := 255) hx hb dX6_feedNumber_30 (by decide +kernel) ?_
    refine lv_iand hx hb dX6_feedNumber_33 ?_
    refine lv_topi (fun y_33p2 ey_33p2 => ?_)
    have f_33p2_1 : iR y_33p2 0 255 := iR_andR ey_33p2 (iR_c (n := 255) (a := 255) (b := 255) (by decide +kernel) (by decide +kernel)) (by decide +kernel)
    refine s_iast (g := (upd f0_0 v0_1.toNatClampNeg y_33p2)) (ws' := [(a0, .inr (6, [.ref a0_0, .int v0_1, .ref b0_2, .ref b0_3, .ref b0_4, .ref b0_5, .ref b0_6, .ref b0_7, .ref b0_8, .null, .int v0_10, .int v0_11, .int v0_12, .ref b0_13, .ref b0_14, .ref b0_15, .ref a0_16])), (a0_0, .inl (cI, 1600, .inl (upd f0_0 v0_1.toNatClampNeg y_33p2)))]) hx hb hK hP hD hS 1 0 rfl rfl (iR_vp hxv0_1 (by decide +kernel)) rfl rfl dX6_feedNumber_34 (fun H locs hP hD hS => ?_)
    refine lv_aload_n hx hb dX6_feedNumber_35 rfl (lv_at hl 1 rfl) ?_
    refine lv_dup hx hb dX6_feedNumber_36 rfl ?_
    refine k_get (D := (dC, dI)) (ci := 6) (v := .int v0_1) (C := RX6) (T := TX6) (N := 17) hx hb hts hinX6 hown hK hP 0 rfl rfl 1 (by decide) w_0 rfl rfl dX6_feedNumber_37 ?_
    refine lv_iconst (v := 1) hx hb dX6_feedNumber_40 (by decide +kernel) ?_
    refine lv_iadd hx hb dX6_feedNumber_41 ?_
    refine lv_topi (fun y_41p2 ey_41p2 => ?_)
    have f_41p2_2 : iR y_41p2 9 1589 := iR_add ey_41p2 hxv0_1 (iR_c (n := 1) (a := 1) (b := 1) (by decide +kernel) (by decide +kernel)) (by decide +kernel)
    refine k_put (D := (dC, dI)) (ci := 6) (v := .int y_41p2) (C := RX6) (T := TX6) (N := 17) (ws' := [(a0, .inr (6, [.ref a0_0, .int y_41p2, .ref b0_2, .ref b0_3, .ref b0_4, .ref b0_5, .ref b0_6, .ref b0_7, .ref b0_8, .null, .int v0_10, .int v0_11, .int v0_12, .ref b0_13, .ref b0_14, .ref b0_15, .ref a0_16])), (a0_0, .inl (cI, 1600, .inl (upd f0_0 v0_1.toNatClampNeg y_33p2)))]) hx hb hts hinX6 tyX6 tyX6_ok nmX6 hown hK hP hD hS 0 rfl rfl 1 (by decide) w_0 rfl rfl rfl rfl (Nat.le_of_ble_eq_true rfl) rfl dX6_feedNumber_42 (fun H locs hP hD hS => ?_)
    refine lv_iinc (v := 16) (lv' := [(2, .int 16), (0, .ref a0), (1, .int x1)]) hx hb dX6_feedNumber_45 hl (k := 0) rfl (by decide +kernel) (by decide) rfl (fun ls hl => ?_)
    refine lv_goto (tgt := 3) hx hb dX6_feedNumber_48 (by decide) ?_
    refine lv_iload_n hx hb dX6_feedNumber_3 rfl (lv_at hl 0 rfl) ?_
    refine lv_if_lt (tgt := 51) hx hb dX6_feedNumber_4 (by decide) (fun q9 => absurd q9 (by decide +kernel)) (fun _ => ?_)
    refine lv_aload_n hx hb dX6_feedNumber_7 rfl (lv_at hl 1 rfl) ?_
    refine k_get (D := (dC, dI)) (ci := 6) (v := .int y_41p2) (C := RX6) (T := TX6) (N := 17) hx hb hts hinX6 hown hK hP 0 rfl rfl 1 (by decide) w_0 rfl rfl dX6_feedNumber_8 ?_
    refine lv_aload_n hx hb dX6_feedNumber_11 rfl (lv_at hl 1 rfl) ?_
    refine k_get (D := (dC, dI)) (ci := 6) (v := .ref a0_0) (C := RX6) (T := TX6) (N := 17) hx hb hts hinX6 hown hK hP 0 rfl rfl 0 (by decide) w_1 rfl rfl dX6_feedNumber_12 ?_
    refine va_alen (v := 1600) hx hb hK hP 1 0 rfl rfl rfl dX6_feedNumber_15 ?_
    refine lv_icmp_ge (tgt := 45) hx hb dX6_feedNumber_16 (by decide) (fun c_16p2p42p48 => ?_) (fun c_16p2p42p48 => ?_)
    · exact iR_cl (iR_leL (a' := 1600) (b' := 1589) c_16p2p42p48 (iR_c (n := 1600) (a := 1600) (b := 1600) (by decide +kernel) (by decide +kernel)) f_41p2_2 (by decide +kernel)) (by decide +kernel)
    · have c_16p2p42p48 : y_41p2 < 1600 := i_nle c_16p2p42p48
      refine lv_aload_n hx hb dX6_feedNumber_19 rfl (lv_at hl 1 rfl) ?_
      refine k_get (D := (dC, dI)) (ci := 6) (v := .ref a0_0) (C := RX6) (T := TX6) (N := 17) hx hb hts hinX6 hown hK hP 0 rfl rfl 0 (by decide) w_1 rfl rfl dX6_feedNumber_20 ?_
      refine lv_aload_n hx hb dX6_feedNumber_23 rfl (lv_at hl 1 rfl) ?_
      refine k_get (D := (dC, dI)) (ci := 6) (v := .int y_41p2) (C := RX6) (T := TX6) (N := 17) hx hb hts hinX6 hown hK hP 0 rfl rfl 1 (by decide) w_0 rfl rfl dX6_feedNumber_24 ?_
      refine lv_iload_n hx hb dX6_feedNumber_27 rfl (lv_at hl 2 rfl) ?_
      refine lv_iload_n hx hb dX6_feedNumber_28 rfl (lv_at hl 0 rfl) ?_
      refine lv_iushr (v := (x1.toUInt32 >>> ((16 : Int32).toUInt32 &&& Int32.toUInt32 31)).toInt32) hx hb dX6_feedNumber_29 rfl ?_
      refine lv_topi (fun y_29p2p42p48 ey_29p2p42p48 => ?_)
      refine lv_sipush (v := 255) hx hb dX6_feedNumber_30 (by decide +kernel) ?_
      refine lv_iand hx hb dX6_feedNumber_33 ?_
      refine lv_topi (fun y_33p2p42p48 ey_33p2p42p48 => ?_)
      have f_33p2p42p48_3 : iR y_33p2p42p48 0 255 := iR_andR ey_33p2p42p48 (iR_c (n := 255) (a := 255) (b := 255) (by decide +kernel) (by decide +kernel)) (by decide +kernel)
      refine s_iast (g := (upd (upd f0_0 v0_1.toNatClampNeg y_33p2) y_41p2.toNatClampNeg y_33p2p42p48)) (ws' := [(a0, .inr (6, [.ref a0_0, .int y_41p2, .ref b0_2, .ref b0_3, .ref b0_4, .ref b0_5, .ref b0_6, .ref b0_7, .ref b0_8, .null, .int v0_10, .int v0_11, .int v0_12, .ref b0_13, .ref b0_14, .ref b0_15, .ref a0_16])), (a0_0, .inl (cI, 1600, .inl (upd (upd f0_0 v0_1.toNatClampNeg y_33p2) y_41p2.toNatClampNeg y_33p2p42p48)))]) hx hb hK hP hD hS 1 0 rfl rfl (iR_vp f_41p2_2 (by decide +kernel)) rfl rfl dX6_feedNumber_34 (fun H locs hP hD hS => ?_)
      refine lv_aload_n hx hb dX6_feedNumber_35 rfl (lv_at hl 1 rfl) ?_
      refine lv_dup hx hb dX6_feedNumber_36 rfl ?_
      refine k_get (D := (dC, dI)) (ci := 6) (v := .int y_41p2) (C := RX6) (T := TX6) (N := 17) hx hb hts hinX6 hown hK hP 0 rfl rfl 1 (by decide) w_0 rfl rfl dX6_feedNumber_37 ?_
      refine lv_iconst (v := 1) hx hb dX6_feedNumber_40 (by decide +kernel) ?_
      refine lv_iadd hx hb dX6_feedNumber_41 ?_
      refine lv_topi (fun y_41p2p42p48 ey_41p2p42p48 => ?_)
      have f_41p2p42p48_4 : iR y_41p2p42p48 10 1590 := iR_add ey_41p2p42p48 f_41p2_2 (iR_c (n := 1) (a := 1) (b := 1) (by decide +kernel) (by decide +kernel)) (by decide +kernel)
      refine k_put (D := (dC, dI)) (ci := 6) (v := .int y_41p2p42p48) (C := RX6) (T := TX6) (N := 17) (ws' := [(a0, .inr (6, [.ref a0_0, .int y_41p2p42p48, .ref b0_2, .ref b0_3, .ref b0_4, .ref b0_5, .ref b0_6, .ref b0_7, .ref b0_8, .null, .int v0_10, .int v0_11, .int v0_12, .ref b0_13, .ref b0_14, .ref b0_15, .ref a0_16])), (a0_0, .inl (cI, 1600, .inl (upd (upd f0_0 v0_1.toNatClampNeg y_33p2) y_41p2.toNatClampNeg y_33p2p42p48)))]) hx hb hts hinX6 tyX6 tyX6_ok nmX6 hown hK hP hD hS 0 rfl rfl 1 (by decide) w_0 rfl rfl rfl rfl (Nat.le_of_ble_eq_true rfl) rfl dX6_feedNumber_42 (fun H locs hP hD hS => ?_)
      refine lv_iinc (v := 8) (lv' := [(2, .int 8), (0, .ref a0), (1, .int x1)]) hx hb dX6_feedNumber_45 hl (k := 0) rfl (by decide +kernel) (by decide) rfl (fun ls hl => ?_)
      refine lv_goto (tgt := 3) hx hb dX6_feedNumber_48 (by decide) ?_
      refine lv_iload_n hx hb dX6_feedNumber_3 rfl (lv_at hl 0 rfl) ?_
      refine lv_if_lt (tgt := 51) hx hb dX6_feedNumber_4 (by decide) (fun q9 => absurd q9 (by decide +kernel)) (fun _ => ?_)
      refine lv_aload_n hx hb dX6_feedNumber_7 rfl (lv_at hl 1 rfl) ?_
      refine k_get (D := (dC, dI)) (ci := 6) (v := .int y_41p2p42p48) (C := RX6) (T := TX6) (N := 17) hx hb hts hinX6 hown hK hP 0 rfl rfl 1 (by decide) w_0 rfl rfl dX6_feedNumber_8 ?_
      refine lv_aload_n hx hb dX6_feedNumber_11 rfl (lv_at hl 1 rfl) ?_
      refine k_get (D := (dC, dI)) (ci := 6) (v := .ref a0_0) (C := RX6) (T := TX6) (N := 17) hx hb hts hinX6 hown hK hP 0 rfl rfl 0 (by decide) w_1 rfl rfl dX6_feedNumber_12 ?_
      refine va_alen (v := 1600) hx hb hK hP 1 0 rfl rfl rfl dX6_feedNumber_15 ?_
      refine lv_icmp_ge (tgt := 45) hx hb dX6_feedNumber_16 (by decide) (fun c_16p2p42p48p42p48 => ?_) (fun c_16p2p42p48p42p48 => ?_)
      · exact iR_cl (iR_leL (a' := 1600) (b' := 1590) c_16p2p42p48p42p48 (iR_c (n := 1600) (a := 1600) (b := 1600) (by decide +kernel) (by decide +kernel)) f_41p2p42p48_4 (by decide +kernel)) (by decide +kernel)
      · have c_16p2p42p48p42p48 : y_41p2p42p48 < 1600 := i_nle c_16p2p42p48p42p48
        refine lv_aload_n hx hb dX6_feedNumber_19 rfl (lv_at hl 1 rfl) ?_
        refine k_get (D := (dC, dI)) (ci := 6) (v := .ref a0_0) (C := RX6) (T := TX6) (N := 17) hx hb hts hinX6 hown hK hP 0 rfl rfl 0 (by decide) w_1 rfl rfl dX6_feedNumber_20 ?_
        refine lv_aload_n hx hb dX6_feedNumber_23 rfl (lv_at hl 1 rfl) ?_
        refine k_get (D := (dC, dI)) (ci := 6) (v := .int y_41p2p42p48) (C := RX6) (T := TX6) (N := 17) hx hb hts hinX6 hown hK hP 0 rfl rfl 1 (by decide) w_0 rfl rfl dX6_feedNumber_24 ?_
        refine lv_iload_n hx hb dX6_feedNumber_27 rfl (lv_at hl 2 rfl) ?_
        refine lv_iload_n hx hb dX6_feedNumber_28 rfl (lv_at hl 0 rfl) ?_
        refine lv_iushr (v := (x1.toUInt32 >>> ((8 : Int32).toUInt32 &&& Int32.toUInt32 31)).toInt32) hx hb dX6_feedNumber_29 rfl ?_
        refine lv_topi (fun y_29p2p42p48p42p48 ey_29p2p42p48p42p48 => ?_)
        refine lv_sipush (v := 255) hx hb dX6_feedNumber_30 (by decide +kernel) ?_
        refine lv_iand hx hb dX6_feedNumber_33 ?_
        refine lv_topi (fun y_33p2p42p48p42p48 ey_33p2p42p48p42p48 => ?_)
        have f_33p2p42p48p42p48_5 : iR y_33p2p42p48p42p48 0 255 := iR_andR ey_33p2p42p48p42p48 (iR_c (n := 255) (a := 255) (b := 255) (by decide +kernel) (by decide +kernel)) (by decide +kernel)
        refine s_iast (g := (upd (upd (upd f0_0 v0_1.toNatClampNeg y_33p2) y_41p2.toNatClampNeg y_33p2p42p48) y_41p2p42p48.toNatClampNeg y_33p2p42p48p42p48)) (ws' := [(a0, .inr (6, [.ref a0_0, .int y_41p2p42p48, .ref b0_2, .ref b0_3, .ref b0_4, .ref b0_5, .ref b0_6, .ref b0_7, .ref b0_8, .null, .int v0_10, .int v0_11, .int v0_12, .ref b0_13, .ref b0_14, .ref b0_15, .ref a0_16])), (a0_0, .inl (cI, 1600, .inl (upd (upd (upd f0_0 v0_1.toNatClampNeg y_33p2) y_41p2.toNatClampNeg y_33p2p42p48) y_41p2p42p48.toNatClampNeg y_33p2p42p48p42p48)))]) hx hb hK hP hD hS 1 0 rfl rfl (iR_vp f_41p2p42p48_4 (by decide +kernel)) rfl rfl dX6_feedNumber_34 (fun H locs hP hD hS => ?_)
        refine lv_aload_n hx hb dX6_feedNumber_35 rfl (lv_at hl 1 rfl) ?_
        refine lv_dup hx hb dX6_feedNumber_36 rfl ?_
        refine k_get (D := (dC, dI)) (ci := 6) (v := .int y_41p2p42p48) (C := RX6) (T := TX6) (N := 17) hx hb hts hinX6 hown hK hP 0 rfl rfl 1 (by decide) w_0 rfl rfl dX6_feedNumber_37 ?_
        refine lv_iconst (v := 1) hx hb dX6_feedNumber_40 (by decide +kernel) ?_
        refine lv_iadd hx hb dX6_feedNumber_41 ?_
        refine lv_topi (fun y_41p2p42p48p42p48 ey_41p2p42p48p42p48 => ?_)
        have f_41p2p42p48p42p48_6 : iR y_41p2p42p48p42p48 11 1591 := iR_add ey_41p2p42p48p42p48 f_41p2p42p48_4 (iR_c (n := 1) (a := 1) (b := 1) (by decide +kernel) (by decide +kernel)) (by decide +kernel)
        refine k_put (D := (dC, dI)) (ci := 6) (v := .int y_41p2p42p48p42p48) (C := RX6) (T := TX6) (N := 17) (ws' := [(a0, .inr (6, [.ref a0_0, .int y_41p2p42p48p42p48, .ref b0_2, .ref b0_3, .ref b0_4, .ref b0_5, .ref b0_6, .ref b0_7, .ref b0_8, .null, .int v0_10, .int v0_11, .int v0_12, .ref b0_13, .ref b0_14, .ref b0_15, .ref a0_16])), (a0_0, .inl (cI, 1600, .inl (upd (upd (upd f0_0 v0_1.toNatClampNeg y_33p2) y_41p2.toNatClampNeg y_33p2p42p48) y_41p2p42p48.toNatClampNeg y_33p2p42p48p42p48)))]) hx hb hts hinX6 tyX6 tyX6_ok nmX6 hown hK hP hD hS 0 rfl rfl 1 (by decide) w_0 rfl rfl rfl rfl (Nat.le_of_ble_eq_true rfl) rfl dX6_feedNumber_42 (fun H locs hP hD hS => ?_)
        refine lv_iinc (v := 0) (lv' := [(2, .int 0), (0, .ref a0), (1, .int x1)]) hx hb dX6_feedNumber_45 hl (k := 0) rfl (by decide +kernel) (by decide) rfl (fun ls hl => ?_)
        refine lv_goto (tgt := 3) hx hb dX6_feedNumber_48 (by decide) ?_
        refine lv_iload_n hx hb dX6_feedNumber_3 rfl (lv_at hl 0 rfl) ?_
        refine lv_if_lt (tgt := 51) hx hb dX6_feedNumber_4 (by decide) (fun q9 => absurd q9 (by decide +kernel)) (fun _ => ?_)
        refine lv_aload_n hx hb dX6_feedNumber_7 rfl (lv_at hl 1 rfl) ?_
        refine k_get (D := (dC, dI)) (ci := 6) (v := .int y_41p2p42p48p42p48) (C := RX6) (T := TX6) (N := 17) hx hb hts hinX6 hown hK hP 0 rfl rfl 1 (by decide) w_0 rfl rfl dX6_feedNumber_8 ?_
        refine lv_aload_n hx hb dX6_feedNumber_11 rfl (lv_at hl 1 rfl) ?_
        refine k_get (D := (dC, dI)) (ci := 6) (v := .ref a0_0) (C := RX6) (T := TX6) (N := 17) hx hb hts hinX6 hown hK hP 0 rfl rfl 0 (by decide) w_1 rfl rfl dX6_feedNumber_12 ?_
        refine va_alen (v := 1600) hx hb hK hP 1 0 rfl rfl rfl dX6_feedNumber_15 ?_
        refine lv_icmp_ge (tgt := 45) hx hb dX6_feedNumber_16 (by decide) (fun c_16p2p42p48p42p48p42p48 => ?_) (fun c_16p2p42p48p42p48p42p48 => ?_)
        · exact iR_cl (iR_leL (a' := 1600) (b' := 1591) c_16p2p42p48p42p48p42p48 (iR_c (n := 1600) (a := 1600) (b := 1600) (by decide +kernel) (by decide +kernel)) f_41p2p42p48p42p48_6 (by decide +kernel)) (by decide +kernel)
        · have c_16p2p42p48p42p48p42p48 : y_41p2p42p48p42p48 < 1600 := i_nle c_16p2p42p48p42p48p42p48
          refine lv_aload_n hx hb dX6_feedNumber_19 rfl (lv_at hl 1 rfl) ?_
          refine k_get (D := (dC, dI)) (ci := 6) (v := .ref a0_0) (C := RX6) (T := TX6) (N := 17) hx hb hts hinX6 hown hK hP 0 rfl rfl 0 (by decide) w_1 rfl rfl dX6_feedNumber_20 ?_
          refine lv_aload_n hx hb dX6_feedNumber_23 rfl (lv_at hl 1 rfl) ?_
          refine k_get (D := (dC, dI)) (ci := 6) (v := .int y_41p2p42p48p42p48) (C := RX6) (T := TX6) (N := 17) hx hb hts hinX6 hown hK hP 0 rfl rfl 1 (by decide) w_0 rfl rfl dX6_feedNumber_24 ?_
          refine lv_iload_n hx hb dX6_feedNumber_27 rfl (lv_at hl 2 rfl) ?_
          refine lv_iload_n hx hb dX6_feedNumber_28 rfl (lv_at hl 0 rfl) ?_
          refine lv_iushr (v := (x1.toUInt32 >>> ((0 : Int32).toUInt32 &&& Int32.toUInt32 31)).toInt32) hx hb dX6_feedNumber_29 rfl ?_
          refine lv_topi (fun y_29p2p42p48p42p48p42p48 ey_29p2p42p48p42p48p42p48 => ?_)
          refine lv_sipush (v := 255) hx hb dX6_feedNumber_30 (by decide +kernel) ?_
          refine lv_iand hx hb dX6_feedNumber_33 ?_
          refine lv_topi (fun y_33p2p42p48p42p48p42p48 ey_33p2p42p48p42p48p42p48 => ?_)
          have f_33p2p42p48p42p48p42p48_7 : iR y_33p2p42p48p42p48p42p48 0 255 := iR_andR ey_33p2p42p48p42p48p42p48 (iR_c (n := 255) (a := 255) (b := 255) (by decide +kernel) (by decide +kernel)) (by decide +kernel)
          refine s_iast (g := (upd (upd (upd (upd f0_0 v0_1.toNatClampNeg y_33p2) y_41p2.toNatClampNeg y_33p2p42p48) y_41p2p42p48.toNatClampNeg y_33p2p42p48p42p48) y_41p2p42p48p42p48.toNatClampNeg y_33p2p42p48p42p48p42p48)) (ws' := [(a0, .inr (6, [.ref a0_0, .int y_41p2p42p48p42p48, .ref b0_2, .ref b0_3, .ref b0_4, .ref b0_5, .ref b0_6, .ref b0_7, .ref b0_8, .null, .int v0_10, .int v0_11, .int v0_12, .ref b0_13, .ref b0_14, .ref b0_15, .ref a0_16])), (a0_0, .inl (cI, 1600, .inl (upd (upd (upd (upd f0_0 v0_1.toNatClampNeg y_33p2) y_41p2.toNatClampNeg y_33p2p42p48) y_41p2p42p48.toNatClampNeg y_33p2p42p48p42p48) y_41p2p42p48p42p48.toNatClampNeg y_33p2p42p48p42p48p42p48)))]) hx hb hK hP hD hS 1 0 rfl rfl (iR_vp f_41p2p42p48p42p48_6 (by decide +kernel)) rfl rfl dX6_feedNumber_34 (fun H locs hP hD hS => ?_)
          refine lv_aload_n hx hb dX6_feedNumber_35 rfl (lv_at hl 1 rfl) ?_
          refine lv_dup hx hb dX6_feedNumber_36 rfl ?_
          refine k_get (D := (dC, dI)) (ci := 6) (v := .int y_41p2p42p48p42p48) (C := RX6) (T := TX6) (N := 17) hx hb hts hinX6 hown hK hP 0 rfl rfl 1 (by decide) w_0 rfl rfl dX6_feedNumber_37 ?_
          refine lv_iconst (v := 1) hx hb dX6_feedNumber_40 (by decide +kernel) ?_
          refine lv_iadd hx hb dX6_feedNumber_41 ?_
          refine lv_topi (fun y_41p2p42p48p42p48p42p48 ey_41p2p42p48p42p48p42p48 => ?_)
          have f_41p2p42p48p42p48p42p48_8 : iR y_41p2p42p48p42p48p42p48 12 1592 := iR_add ey_41p2p42p48p42p48p42p48 f_41p2p42p48p42p48_6 (iR_c (n := 1) (a := 1) (b := 1) (by decide +kernel) (by decide +kernel)) (by decide +kernel)
          refine k_put (D := (dC, dI)) (ci := 6) (v := .int y_41p2p42p48p42p48p42p48) (C := RX6) (T := TX6) (N := 17) (ws' := [(a0, .inr (6, [.ref a0_0, .int y_41p2p42p48p42p48p42p48, .ref b0_2, .ref b0_3, .ref b0_4, .ref b0_5, .ref b0_6, .ref b0_7, .ref b0_8, .null, .int v0_10, .int v0_11, .int v0_12, .ref b0_13, .ref b0_14, .ref b0_15, .ref a0_16])), (a0_0, .inl (cI, 1600, .inl (upd (upd (upd (upd f0_0 v0_1.toNatClampNeg y_33p2) y_41p2.toNatClampNeg y_33p2p42p48) y_41p2p42p48.toNatClampNeg y_33p2p42p48p42p48) y_41p2p42p48p42p48.toNatClampNeg y_33p2p42p48p42p48p42p48)))]) hx hb hts hinX6 tyX6 tyX6_ok nmX6 hown hK hP hD hS 0 rfl rfl 1 (by decide) w_0 rfl rfl rfl rfl (Nat.le_of_ble_eq_true rfl) rfl dX6_feedNumber_42 (fun H locs hP hD hS => ?_)
          refine lv_iinc (v := (-8)) (lv' := [(2, .int (-8)), (0, .ref a0), (1, .int x1)]) hx hb dX6_feedNumber_45 hl (k := 0) rfl (by decide +kernel) (by decide) rfl (fun ls hl => ?_)
          refine lv_goto (tgt := 3) hx hb dX6_feedNumber_48 (by decide) ?_
          refine lv_iload_n hx hb dX6_feedNumber_3 rfl (lv_at hl 0 rfl) ?_
          refine lv_if_lt (tgt := 51) hx hb dX6_feedNumber_4 (by decide) (fun _ => ?_) (fun q9 => absurd q9 (by decide +kernel))
          exact k_rv B hP hD hS dX6_feedNumber_51 ((fun k9 => match k9 with | 0 => y_41p2p42p48p42p48p42p48 | _ => 0), (fun _ => 0), (fun k9 => match k9 with | 0 => (upd (upd (upd (upd f0_0 v0_1.toNatClampNeg y_33p2) y_41p2.toNatClampNeg y_33p2p42p48) y_41p2p42p48.toNatClampNeg y_33p2p42p48p42p48) y_41p2p42p48p42p48.toNatClampNeg y_33p2p42p48p42p48p42p48) | _ => (fun _ => 0)), (fun _ => (fun _ => 0)), (fun _ => 0)) [0, 1] rfl rfl (Nat.le_of_ble_eq_true rfl) (Nat.le_of_ble_eq_true rfl) ⟨(show iR y_41p2p42p48p42p48p42p48 12 1592 from f_41p2p42p48p42p48p42p48_8), (show aR (upd (upd (upd (upd f0_0 v0_1.toNatClampNeg y_33p2) y_41p2.toNatClampNeg y_33p2p42p48) y_41p2p42p48.toNatClampNeg y_33p2p42p48p42p48) y_41p2p42p48p42p48.toNatClampNeg y_33p2p42p48p42p48p42p48) 0 255 from (aR_upd _ (aR_upd _ (aR_upd _ (aR_upd _ hf0_0 f_33p2_1) f_33p2p42p48_3) f_33p2p42p48p42p48_5) f_33p2p42p48p42p48p42p48_7)), (show y_41p2p42p48p42p48p42p48 = tn4 v0_1 from (by rw [ey_41p2p42p48p42p48p42p48, ey_41p2p42p48p42p48, ey_41p2p42p48, ey_41p2]; rfl)), (show (upd (upd (upd (upd f0_0 v0_1.toNatClampNeg y_33p2) y_41p2.toNatClampNeg y_33p2p42p48) y_41p2p42p48.toNatClampNeg y_33p2p42p48p42p48) y_41p2p42p48p42p48.toNatClampNeg y_33p2p42p48p42p48p42p48) = tp4 f0_0 v0_1 x1 from (by rw [ey_33p2p42p48p42p48p42p48, ey_29p2p42p48p42p48p42p48, ey_41p2p42p48p42p48, ey_33p2p42p48p42p48, ey_29p2p42p48p42p48, ey_41p2p42p48, ey_33p2p42p48, ey_29p2p42p48, ey_41p2, ey_33p2, ey_29p2, byu24, byu16, byu8, byu0]; rfl))⟩
set_option maxHeartbeats 8000000 in
set_option maxRecDepth 100000 in
theorem s_X6_feedNumber_v8 (l : Launch) (dC : Nat → ClassId) (dI : Nat → Nat → Nat) (cI cJ cZ cM : ClassId) (a0 : Nat) (x1 : Int32) (a0_0 : Nat) (f0_0 : Nat → Int32) (v0_1 : Int32) (b0_2 : Nat) (b0_3 : Nat) (b0_4 : Nat) (b0_5 : Nat) (b0_6 : Nat) (b0_7 : Nat) (b0_8 : Nat) (v0_10 : Int32) (v0_11 : Int32) (v0_12 : Int32) (b0_13 : Nat) (b0_14 : Nat) (b0_15 : Nat) (a0_16 : Nat) (hxv0_1 : iR v0_1 12 1592) (hv0_1 : iR v0_1 0 1600) (hv0_11 : iR v0_11 1 65535) (hv0_12 : iR v0_12 (-1) 999) (hf0_0 : aR f0_0 0 255) : k_Mv l yX6_feedNumber wsX6_feedNumber ({ frames := 1, cells := 0, slots := 0, locals := 40 }) (dC, dI) vwCl (tyy cI cJ cZ cM) [(a0, .inr (6, [.ref a0_0, .int v0_1, .ref b0_2, .ref b0_3, .ref b0_4, .ref b0_5, .ref b0_6, .ref b0_7, .ref b0_8, .null, .int v0_10, .int v0_11, .int v0_12, .ref b0_13, .ref b0_14, .ref b0_15, .ref a0_16])), (a0_0, .inl (cI, 1600, .inl f0_0))] [.ref a0, .int x1] 0 0 (fun (u9 : SU) => [(a0, .inr (6, [.ref a0_0, .int (u9.1 0), .ref b0_2, .ref b0_3, .ref b0_4, .ref b0_5, .ref b0_6, .ref b0_7, .ref b0_8, .null, .int v0_10, .int v0_11, .int v0_12, .ref b0_13, .ref b0_14, .ref b0_15, .ref a0_16])), (a0_0, .inl (cI, 1600, .inl (u9.2.2.1 0)))]) (fun (u9 : SU) => (iR (u9.1 0) 16 1596) ∧ (aR (u9.2.2.1 0) 0 255) ∧ ((u9.1 0) = tn4 v0_1) ∧ ((u9.2.2.1 0) = tp4 f0_0 v0_1 x1)) := by
  refine fun sz => k_enter (cc := cX6_feedNumber) (maxL := 3) (ret := none) (Qc := fun A => va_Qv (fun (u9 : SU) => (iR (u9.1 0) 16 1596) ∧ (aR (u9.2.2.1 0) 0 255) ∧ ((u9.1 0) = tn4 v0_1) ∧ ((u9.2.2.1 0) = tp4 f0_0 v0_1 x1)) (fun u => k_B (dC, dI) vwCl (tyy cI cJ cZ cM) A ((fun (u9 : SU) => [(a0, .inr (6, [.ref a0_0, .int (u9.1 0), .ref b0_2, .ref b0_3, .ref b0_4, .ref b0_5, .ref b0_6, .ref b0_7, .ref b0_8, .null, .int v0_10, .int v0_11, .int v0_12, .ref b0_13, .ref b0_14, .ref b0_15, .ref a0_16])), (a0_0, .inl (cI, 1600, .inl (u9.2.2.1 0)))]) u)) A) sz (by decide +kernel) rfl (Nat.le_of_ble_eq_true rfl) (fun p e s m args below meth c A ls H locs B hP hD hS hl => ?_)
  obtain ⟨hx, hb, hml, hown, hts, hr, hlk, hnm, hK, hA, hN, hC⟩ := id B
  have hown : s.vm.findClass RX6 = some m.cls := hown
  have hl : lv_has ls 3 [(0, .ref a0), (1, .int x1)] := hl
  have w_0 : (Cond.fieldLink RX6 92 "WishSea" "tapeLength" "I").before args s = true := hts _ (List.mem_of_getElem? (i := 1) rfl)
  have w_1 : (Cond.fieldLink RX6 9 "WishSea" "tape" "[I").before args s = true := hts _ (List.mem_of_getElem? (i := 2) rfl)
  have hinX6 : ∀ w ∈ u_ws RX6 TX6 17, w ∈ wsX6_feedNumber := fun _ h => List.mem_cons_of_mem _ (List.mem_append_right _ h)
  refine lv_bipush (v := 24) hx hb dX6_feedNumber_0 (by decide +kernel) ?_
  refine lv_istore_n (lv' := [(2, .int 24), (0, .ref a0), (1, .int x1)]) hx hb dX6_feedNumber_2 rfl hl (by decide) rfl (fun ls hl => ?_)
  refine lv_iload_n hx hb dX6_feedNumber_3 rfl (lv_at hl 0 rfl) ?_
  refine lv_if_lt (tgt := 51) hx hb dX6_feedNumber_4 (by decide) (fun q9 => absurd q9 (by decide +kernel)) (fun _ => ?_)
  refine lv_aload_n hx hb dX6_feedNumber_7 rfl (lv_at hl 1 rfl) ?_
  refine k_get (D := (dC, dI)) (ci := 6) (v := .int v0_1) (C := RX6) (T := TX6) (N := 17) hx hb hts hinX6 hown hK hP 0 rfl rfl 1 (by decide) w_0 rfl rfl dX6_feedNumber_8 ?_
  refine lv_aload_n hx hb dX6_feedNumber_11 rfl (lv_at hl 1 rfl) ?_
  refine k_get (D := (dC, dI)) (ci := 6) (v := .ref a0_0) (C := RX6) (T := TX6) (N := 17) hx hb hts hinX6 hown hK hP 0 rfl rfl 0 (by decide) w_1 rfl rfl dX6_feedNumber_12 ?_
  refine va_alen (v := 1600) hx hb hK hP 1 0 rfl rfl rfl dX6_feedNumber_15 ?_
  refine lv_icmp_ge (tgt := 45) hx hb dX6_feedNumber_16 (by decide) (fun c_16p2 => ?_) (fun c_16p2 => ?_)
  · exact iR_cl (iR_leL (a' := 1600) (b' := 1592) c_16p2 (iR_c (n := 1600) (a := 1600) (b := 1600) (by decide +kernel) (by decide +kernel)) hxv0_1 (by decide +kernel)) (by decide +kernel)
  · have c_16p2 : v0_1 < 1600 := i_nle c_16p2
    refine lv_aload_n hx hb dX6_feedNumber_19 rfl (lv_at hl 1 rfl) ?_
    refine k_get (D := (dC, dI)) (ci := 6) (v := .ref a0_0) (C := RX6) (T := TX6) (N := 17) hx hb hts hinX6 hown hK hP 0 rfl rfl 0 (by decide) w_1 rfl rfl dX6_feedNumber_20 ?_
    refine lv_aload_n hx hb dX6_feedNumber_23 rfl (lv_at hl 1 rfl) ?_
    refine k_get (D := (dC, dI)) (ci := 6) (v := .int v0_1) (C := RX6) (T := TX6) (N := 17) hx hb hts hinX6 hown hK hP 0 rfl rfl 1 (by decide) w_0 rfl rfl dX6_feedNumber_24 ?_
    refine lv_iload_n hx hb dX6_feedNumber_27 rfl (lv_at hl 2 rfl) ?_
    refine lv_iload_n hx hb dX6_feedNumber_28 rfl (lv_at hl 0 rfl) ?_
    refine lv_iushr (v := (x1.toUInt32 >>> ((24 : Int32).toUInt32 &&& Int32.toUInt32 31)).toInt32) hx hb dX6_feedNumber_29 rfl ?_
    refine lv_topi (fun y_29p2 ey_29p2 => ?_)
    refine lv_sipush (v := 255) hx hb dX6_feedNumber_30 (by decide +kernel) ?_
    refine lv_iand hx hb dX6_feedNumber_33 ?_
    refine lv_topi (fun y_33p2 ey_33p2 => ?_)
    have f_33p2_1 : iR y_33p2 0 255 := iR_andR ey_33p2 (iR_c (n := 255) (a := 255) (b := 255) (by decide +kernel) (by decide +kernel)) (by decide +kernel)
    refine s_iast (g := (upd f0_0 v0_1.toNatClampNeg y_33p2)) (ws' := [(a0, .inr (6, [.ref a0_0, .int v0_1, .ref b0_2, .ref b0_3, .ref b0_4, .ref b0_5, .ref b0_6, .ref b0_7, .ref b0_8, .null, .int v0_10, .int v0_11, .int v0_12, .ref b0_13, .ref b0_14, .ref b0_15, .ref a0_16])), (a0_0, .inl (cI, 1600, .inl (upd f0_0 v0_1.toNatClampNeg y_33p2)))]) hx hb hK hP hD hS 1 0 rfl rfl (iR_vp hxv0_1 (by decide +kernel)) rfl rfl dX6_feedNumber_34 (fun H locs hP hD hS => ?_)
    refine lv_aload_n hx hb dX6_feedNumber_35 rfl (lv_at hl 1 rfl) ?_
    refine lv_dup hx hb dX6_feedNumber_36 rfl ?_
    refine k_get (D := (dC, dI)) (ci := 6) (v := .int v0_1) (C := RX6) (T := TX6) (N := 17) hx hb hts hinX6 hown hK hP 0 rfl rfl 1 (by decide) w_0 rfl rfl dX6_feedNumber_37 ?_
    refine lv_iconst (v := 1) hx hb dX6_feedNumber_40 (by decide +kernel) ?_
    refine lv_iadd hx hb dX6_feedNumber_41 ?_
    refine lv_topi (fun y_41p2 ey_41p2 => ?_)
    have f_41p2_2 : iR y_41p2 13 1593 := iR_add ey_41p2 hxv0_1 (iR_c (n := 1) (a := 1) (b := 1) (by decide +kernel) (by decide +kernel)) (by decide +kernel)
    refine k_put (D := (dC, dI)) (ci := 6) (v := .int y_41p2) (C := RX6) (T := TX6) (N := 17) (ws' := [(a0, .inr (6, [.ref a0_0, .int y_41p2, .ref b0_2, .ref b0_3, .ref b0_4, .ref b0_5, .ref b0_6, .ref b0_7, .ref b0_8, .null, .int v0_10, .int v0_11, .int v0_12, .ref b0_13, .ref b0_14, .ref b0_15, .ref a0_16])), (a0_0, .inl (cI, 1600, .inl (upd f0_0 v0_1.toNatClampNeg y_33p2)))]) hx hb hts hinX6 tyX6 tyX6_ok nmX6 hown hK hP hD hS 0 rfl rfl 1 (by decide) w_0 rfl rfl rfl rfl (Nat.le_of_ble_eq_true rfl) rfl dX6_feedNumber_42 (fun H locs hP hD hS => ?_)
    refine lv_iinc (v := 16) (lv' := [(2, .int 16), (0, .ref a0), (1, .int x1)]) hx hb dX6_feedNumber_45 hl (k := 0) rfl (by decide +kernel) (by decide) rfl (fun ls hl => ?_)
    refine lv_goto (tgt := 3) hx hb dX6_feedNumber_48 (by decide) ?_
    refine lv_iload_n hx hb dX6_feedNumber_3 rfl (lv_at hl 0 rfl) ?_
    refine lv_if_lt (tgt := 51) hx hb dX6_feedNumber_4 (by decide) (fun q9 => absurd q9 (by decide +kernel)) (fun _ => ?_)
    refine lv_aload_n hx hb dX6_feedNumber_7 rfl (lv_at hl 1 rfl) ?_
    refine k_get (D := (dC, dI)) (ci := 6) (v := .int y_41p2) (C := RX6) (T := TX6) (N := 17) hx hb hts hinX6 hown hK hP 0 rfl rfl 1 (by decide) w_0 rfl rfl dX6_feedNumber_8 ?_
    refine lv_aload_n hx hb dX6_feedNumber_11 rfl (lv_at hl 1 rfl) ?_
    refine k_get (D := (dC, dI)) (ci := 6) (v := .ref a0_0) (C := RX6) (T := TX6) (N := 17) hx hb hts hinX6 hown hK hP 0 rfl rfl 0 (by decide) w_1 rfl rfl dX6_feedNumber_12 ?_
    refine va_alen (v := 1600) hx hb hK hP 1 0 rfl rfl rfl dX6_feedNumber_15 ?_
    refine lv_icmp_ge (tgt := 45) hx hb dX6_feedNumber_16 (by decide) (fun c_16p2p42p48 => ?_) (fun c_16p2p42p48 => ?_)
    · exact iR_cl (iR_leL (a' := 1600) (b' := 1593) c_16p2p42p48 (iR_c (n := 1600) (a := 1600) (b := 1600) (by decide +kernel) (by decide +kernel)) f_41p2_2 (by decide +kernel)) (by decide +kernel)
    · have c_16p2p42p48 : y_41p2 < 1600 := i_nle c_16p2p42p48
      refine lv_aload_n hx hb dX6_feedNumber_19 rfl (lv_at hl 1 rfl) ?_
      refine k_get (D := (dC, dI)) (ci := 6) (v := .ref a0_0) (C := RX6) (T := TX6) (N := 17) hx hb hts hinX6 hown hK hP 0 rfl rfl 0 (by decide) w_1 rfl rfl dX6_feedNumber_20 ?_
      refine lv_aload_n hx hb dX6_feedNumber_23 rfl (lv_at hl 1 rfl) ?_
      refine k_get (D := (dC, dI)) (ci := 6) (v := .int y_41p2) (C := RX6) (T := TX6) (N := 17) hx hb hts hinX6 hown hK hP 0 rfl rfl 1 (by decide) w_0 rfl rfl dX6_feedNumber_24 ?_
      refine lv_iload_n hx hb dX6_feedNumber_27 rfl (lv_at hl 2 rfl) ?_
      refine lv_iload_n hx hb dX6_feedNumber_28 rfl (lv_at hl 0 rfl) ?_
      refine lv_iushr (v := (x1.toUInt32 >>> ((16 : Int32).toUInt32 &&& Int32.toUInt32 31)).toInt32) hx hb dX6_feedNumber_29 rfl ?_
      refine lv_topi (fun y_29p2p42p48 ey_29p2p42p48 => ?_)
      refine lv_sipush (v := 255) hx hb dX6_feedNumber_30 (by decide +kernel) ?_
      refine lv_iand hx hb dX6_feedNumber_33 ?_
      refine lv_topi (fun y_33p2p42p48 ey_33p2p42p48 => ?_)
      have f_33p2p42p48_3 : iR y_33p2p42p48 0 255 := iR_andR ey_33p2p42p48 (iR_c (n := 255) (a := 255) (b := 255) (by decide +kernel) (by decide +kernel)) (by decide +kernel)
      refine s_iast (g := (upd (upd f0_0 v0_1.toNatClampNeg y_33p2) y_41p2.toNatClampNeg y_33p2p42p48)) (ws' := [(a0, .inr (6, [.ref a0_0, .int y_41p2, .ref b0_2, .ref b0_3, .ref b0_4, .ref b0_5, .ref b0_6, .ref b0_7, .ref b0_8, .null, .int v0_10, .int v0_11, .int v0_12, .ref b0_13, .ref b0_14, .ref b0_15, .ref a0_16])), (a0_0, .inl (cI, 1600, .inl (upd (upd f0_0 v0_1.toNatClampNeg y_33p2) y_41p2.toNatClampNeg y_33p2p42p48)))]) hx hb hK hP hD hS 1 0 rfl rfl (iR_vp f_41p2_2 (by decide +kernel)) rfl rfl dX6_feedNumber_34 (fun H locs hP hD hS => ?_)
      refine lv_aload_n hx hb dX6_feedNumber_35 rfl (lv_at hl 1 rfl) ?_
      refine lv_dup hx hb dX6_feedNumber_36 rfl ?_
      refine k_get (D := (dC, dI)) (ci := 6) (v := .int y_41p2) (C := RX6) (T := TX6) (N := 17) hx hb hts hinX6 hown hK hP 0 rfl rfl 1 (by decide) w_0 rfl rfl dX6_feedNumber_37 ?_
      refine lv_iconst (v := 1) hx hb dX6_feedNumber_40 (by decide +kernel) ?_
      refine lv_iadd hx hb dX6_feedNumber_41 ?_
      refine lv_topi (fun y_41p2p42p48 ey_41p2p42p48 => ?_)
      have f_41p2p42p48_4 : iR y_41p2p42p48 14 1594 := iR_add ey_41p2p42p48 f_41p2_2 (iR_c (n := 1) (a := 1) (b := 1) (by decide +kernel) (by decide +kernel)) (by decide +kernel)
      refine k_put (D := (dC, dI)) (ci := 6) (v := .int y_41p2p42p48) (C := RX6) (T := TX6) (N := 17) (ws' := [(a0, .inr (6, [.ref a0_0, .int y_41p2p42p48, .ref b0_2, .ref b0_3, .ref b0_4, .ref b0_5, .ref b0_6, .ref b0_7, .ref b0_8, .null, .int v0_10, .int v0_11, .int v0_12, .ref b0_13, .ref b0_14, .ref b0_15, .ref a0_16])), (a0_0, .inl (cI, 1600, .inl (upd (upd f0_0 v0_1.toNatClampNeg y_33p2) y_41p2.toNatClampNeg y_33p2p42p48)))]) hx hb hts hinX6 tyX6 tyX6_ok nmX6 hown hK hP hD hS 0 rfl rfl 1 (by decide) w_0 rfl rfl rfl rfl (Nat.le_of_ble_eq_true rfl) rfl dX6_feedNumber_42 (fun H locs hP hD hS => ?_)
      refine lv_iinc (v := 8) (lv' := [(2, .int 8), (0, .ref a0), (1, .int x1)]) hx hb dX6_feedNumber_45 hl (k := 0) rfl (by decide +kernel) (by decide) rfl (fun ls hl => ?_)
      refine lv_goto (tgt := 3) hx hb dX6_feedNumber_48 (by decide) ?_
      refine lv_iload_n hx hb dX6_feedNumber_3 rfl (lv_at hl 0 rfl) ?_
      refine lv_if_lt (tgt := 51) hx hb dX6_feedNumber_4 (by decide) (fun q9 => absurd q9 (by decide +kernel)) (fun _ => ?_)
      refine lv_aload_n hx hb dX6_feedNumber_7 rfl (lv_at hl 1 rfl) ?_
      refine k_get (D := (dC, dI)) (ci := 6) (v := .int y_41p2p42p48) (C := RX6) (T := TX6) (N := 17) hx hb hts hinX6 hown hK hP 0 rfl rfl 1 (by decide) w_0 rfl rfl dX6_feedNumber_8 ?_
      refine lv_aload_n hx hb dX6_feedNumber_11 rfl (lv_at hl 1 rfl) ?_
      refine k_get (D := (dC, dI)) (ci := 6) (v := .ref a0_0) (C := RX6) (T := TX6) (N := 17) hx hb hts hinX6 hown hK hP 0 rfl rfl 0 (by decide) w_1 rfl rfl dX6_feedNumber_12 ?_
      refine va_alen (v := 1600) hx hb hK hP 1 0 rfl rfl rfl dX6_feedNumber_15 ?_
      refine lv_icmp_ge (tgt := 45) hx hb dX6_feedNumber_16 (by decide) (fun c_16p2p42p48p42p48 => ?_) (fun c_16p2p42p48p42p48 => ?_)
      · exact iR_cl (iR_leL (a' := 1600) (b' := 1594) c_16p2p42p48p42p48 (iR_c (n := 1600) (a := 1600) (b := 1600) (by decide +kernel) (by decide +kernel)) f_41p2p42p48_4 (by decide +kernel)) (by decide +kernel)
      · have c_16p2p42p48p42p48 : y_41p2p42p48 < 1600 := i_nle c_16p2p42p48p42p48
        refine lv_aload_n hx hb dX6_feedNumber_19 rfl (lv_at hl 1 rfl) ?_
        refine k_get (D := (dC, dI)) (ci := 6) (v := .ref a0_0) (C := RX6) (T := TX6) (N := 17) hx hb hts hinX6 hown hK hP 0 rfl rfl 0 (by decide) w_1 rfl rfl dX6_feedNumber_20 ?_
        refine lv_aload_n hx hb dX6_feedNumber_23 rfl (lv_at hl 1 rfl) ?_
        refine k_get (D := (dC, dI)) (ci := 6) (v := .int y_41p2p42p48) (C := RX6) (T := TX6) (N := 17) hx hb hts hinX6 hown hK hP 0 rfl rfl 1 (by decide) w_0 rfl rfl dX6_feedNumber_24 ?_
        refine lv_iload_n hx hb dX6_feedNumber_27 rfl (lv_at hl 2 rfl) ?_
        refine lv_iload_n hx hb dX6_feedNumber_28 rfl (lv_at hl 0 rfl) ?_
        refine lv_iushr (v := (x1.toUInt32 >>> ((8 : Int32).toUInt32 &&& Int32.toUInt32 31)).toInt32) hx hb dX6_feedNumber_29 rfl ?_
        refine lv_topi (fun y_29p2p42p48p42p48 ey_29p2p42p48p42p48 => ?_)
        refine lv_sipush (v := 255) hx hb dX6_feedNumber_30 (by decide +kernel) ?_
        refine lv_iand hx hb dX6_feedNumber_33 ?_
        refine lv_topi (fun y_33p2p42p48p42p48 ey_33p2p42p48p42p48 => ?_)
        have f_33p2p42p48p42p48_5 : iR y_33p2p42p48p42p48 0 255 := iR_andR ey_33p2p42p48p42p48 (iR_c (n := 255) (a := 255) (b := 255) (by decide +kernel) (by decide +kernel)) (by decide +kernel)
        refine s_iast (g := (upd (upd (upd f0_0 v0_1.toNatClampNeg y_33p2) y_41p2.toNatClampNeg y_33p2p42p48) y_41p2p42p48.toNatClampNeg y_33p2p42p48p42p48)) (ws' := [(a0, .inr (6, [.ref a0_0, .int y_41p2p42p48, .ref b0_2, .ref b0_3, .ref b0_4, .ref b0_5, .ref b0_6, .ref b0_7, .ref b0_8, .null, .int v0_10, .int v0_11, .int v0_12, .ref b0_13, .ref b0_14, .ref b0_15, .ref a0_16])), (a0_0, .inl (cI, 1600, .inl (upd (upd (upd f0_0 v0_1.toNatClampNeg y_33p2) y_41p2.toNatClampNeg y_33p2p42p48) y_41p2p42p48.toNatClampNeg y_33p2p42p48p42p48)))]) hx hb hK hP hD hS 1 0 rfl rfl (iR_vp f_41p2p42p48_4 (by decide +kernel)) rfl rfl dX6_feedNumber_34 (fun H locs hP hD hS => ?_)
        refine lv_aload_n hx hb dX6_feedNumber_35 rfl (lv_at hl 1 rfl) ?_
        refine lv_dup hx hb dX6_feedNumber_36 rfl ?_
        refine k_get (D := (dC, dI)) (ci := 6) (v := .int y_41p2p42p48) (C := RX6) (T := TX6) (N := 17) hx hb hts hinX6 hown hK hP 0 rfl rfl 1 (by decide) w_0 rfl rfl dX6_feedNumber_37 ?_
        refine lv_iconst (v := 1) hx hb dX6_feedNumber_40 (by decide +kernel) ?_
        refine lv_iadd hx hb dX6_feedNumber_41 ?_
        refine lv_topi (fun y_41p2p42p48p42p48 ey_41p2p42p48p42p48 => ?_)
        have f_41p2p42p48p42p48_6 : iR y_41p2p42p48p42p48 15 1595 := iR_add ey_41p2p42p48p42p48 f_41p2p42p48_4 (iR_c (n := 1) (a := 1) (b := 1) (by decide +kernel) (by decide +kernel)) (by decide +kernel)
        refine k_put (D := (dC, dI)) (ci := 6) (v := .int y_41p2p42p48p42p48) (C := RX6) (T := TX6) (N := 17) (ws' := [(a0, .inr (6, [.ref a0_0, .int y_41p2p42p48p42p48, .ref b0_2, .ref b0_3, .ref b0_4, .ref b0_5, .ref b0_6, .ref b0_7, .ref b0_8, .null, .int v0_10, .int v0_11, .int v0_12, .ref b0_13, .ref b0_14, .ref b0_15, .ref a0_16])), (a0_0, .inl (cI, 1600, .inl (upd (upd (upd f0_0 v0_1.toNatClampNeg y_33p2) y_41p2.toNatClampNeg y_33p2p42p48) y_41p2p42p48.toNatClampNeg y_33p2p42p48p42p48)))]) hx hb hts hinX6 tyX6 tyX6_ok nmX6 hown hK hP hD hS 0 rfl rfl 1 (by decide) w_0 rfl rfl rfl rfl (Nat.le_of_ble_eq_true rfl) rfl dX6_feedNumber_42 (fun H locs hP hD hS => ?_)
        refine lv_iinc (v := 0) (lv' := [(2, .int 0), (0, .ref a0), (1, .int x1)]) hx hb dX6_feedNumber_45 hl (k := 0) rfl (by decide +kernel) (by decide) rfl (fun ls hl => ?_)
        refine lv_goto (tgt := 3) hx hb dX6_feedNumber_48 (by decide) ?_
        refine lv_iload_n hx hb dX6_feedNumber_3 rfl (lv_at hl 0 rfl) ?_
        refine lv_if_lt (tgt := 51) hx hb dX6_feedNumber_4 (by decide) (fun q9 => absurd q9 (by decide +kernel)) (fun _ => ?_)
        refine lv_aload_n hx hb dX6_feedNumber_7 rfl (lv_at hl 1 rfl) ?_
        refine k_get (D := (dC, dI)) (ci := 6) (v := .int y_41p2p42p48p42p48) (C := RX6) (T := TX6) (N := 17) hx hb hts hinX6 hown hK hP 0 rfl rfl 1 (by decide) w_0 rfl rfl dX6_feedNumber_8 ?_
        refine lv_aload_n hx hb dX6_feedNumber_11 rfl (lv_at hl 1 rfl) ?_
        refine k_get (D := (dC, dI)) (ci := 6) (v := .ref a0_0) (C := RX6) (T := TX6) (N := 17) hx hb hts hinX6 hown hK hP 0 rfl rfl 0 (by decide) w_1 rfl rfl dX6_feedNumber_12 ?_
        refine va_alen (v := 1600) hx hb hK hP 1 0 rfl rfl rfl dX6_feedNumber_15 ?_
        refine lv_icmp_ge (tgt := 45) hx hb dX6_feedNumber_16 (by decide) (fun c_16p2p42p48p42p48p42p48 => ?_) (fun c_16p2p42p48p42p48p42p48 => ?_)
        · exact iR_cl (iR_leL (a' := 1600) (b' := 1595) c_16p2p42p48p42p48p42p48 (iR_c (n := 1600) (a := 1600) (b := 1600) (by decide +kernel) (by decide +kernel)) f_41p2p42p48p42p48_6 (by decide +kernel)) (by decide +kernel)
        · have c_16p2p42p48p42p48p42p48 : y_41p2p42p48p42p48 < 1600 := i_nle c_16p2p42p48p42p48p42p48
          refine lv_aload_n hx hb dX6_feedNumber_19 rfl (lv_at hl 1 rfl) ?_
          refine k_get (D := (dC, dI)) (ci := 6) (v := .ref a0_0) (C := RX6) (T := TX6) (N := 17) hx hb hts hinX6 hown hK hP 0 rfl rfl 0 (by decide) w_1 rfl rfl dX6_feedNumber_20 ?_
          refine lv_aload_n hx hb dX6_feedNumber_23 rfl (lv_at hl 1 rfl) ?_
          refine k_get (D := (dC, dI)) (ci := 6) (v := .int y_41p2p42p48p42p48) (C := RX6) (T := TX6) (N := 17) hx hb hts hinX6 hown hK hP 0 rfl rfl 1 (by decide) w_0 rfl rfl dX6_feedNumber_24 ?_
          refine lv_iload_n hx hb dX6_feedNumber_27 rfl (lv_at hl 2 rfl) ?_
          refine lv_iload_n hx hb dX6_feedNumber_28 rfl (lv_at hl 0 rfl) ?_
          refine lv_iushr (v := (x1.toUInt32 >>> ((0 : Int32).toUInt32 &&& Int32.toUInt32 31)).toInt32) hx hb dX6_feedNumber_29 rfl ?_
          refine lv_topi (fun y_29p2p42p48p42p48p42p48 ey_29p2p42p48p42p48p42p48 => ?_)
          refine lv_sipush (v := 255) hx hb dX6_feedNumber_30 (by decide +kernel) ?_
          refine lv_iand hx hb dX6_feedNumber_33 ?_
          refine lv_topi (fun y_33p2p42p48p42p48p42p48 ey_33p2p42p48p42p48p42p48 => ?_)
          have f_33p2p42p48p42p48p42p48_7 : iR y_33p2p42p48p42p48p42p48 0 255 := iR_andR ey_33p2p42p48p42p48p42p48 (iR_c (n := 255) (a := 255) (b := 255) (by decide +kernel) (by decide +kernel)) (by decide +kernel)
          refine s_iast (g := (upd (upd (upd (upd f0_0 v0_1.toNatClampNeg y_33p2) y_41p2.toNatClampNeg y_33p2p42p48) y_41p2p42p48.toNatClampNeg y_33p2p42p48p42p48) y_41p2p42p48p42p48.toNatClampNeg y_33p2p42p48p42p48p42p48)) (ws' := [(a0, .inr (6, [.ref a0_0, .int y_41p2p42p48p42p48, .ref b0_2, .ref b0_3, .ref b0_4, .ref b0_5, .ref b0_6, .ref b0_7, .ref b0_8, .null, .int v0_10, .int v0_11, .int v0_12, .ref b0_13, .ref b0_14, .ref b0_15, .ref a0_16])), (a0_0, .inl (cI, 1600, .inl (upd (upd (upd (upd f0_0 v0_1.toNatClampNeg y_33p2) y_41p2.toNatClampNeg y_33p2p42p48) y_41p2p42p48.toNatClampNeg y_33p2p42p48p42p48) y_41p2p42p48p42p48.toNatClampNeg y_33p2p42p48p42p48p42p48)))]) hx hb hK hP hD hS 1 0 rfl rfl (iR_vp f_41p2p42p48p42p48_6 (by decide +kernel)) rfl rfl dX6_feedNumber_34 (fun H locs hP hD hS => ?_)
          refine lv_aload_n hx hb dX6_feedNumber_35 rfl (lv_at hl 1 rfl) ?_
          refine lv_dup hx hb dX6_feedNumber_36 rfl ?_
          refine k_get (D := (dC, dI)) (ci := 6) (v := .int y_41p2p42p48p42p48) (C := RX6) (T := TX6) (N := 17) hx hb hts hinX6 hown hK hP 0 rfl rfl 1 (by decide) w_0 rfl rfl dX6_feedNumber_37 ?_
          refine lv_iconst (v := 1) hx hb dX6_feedNumber_40 (by decide +kernel) ?_
          refine lv_iadd hx hb dX6_feedNumber_41 ?_
          refine lv_topi (fun y_41p2p42p48p42p48p42p48 ey_41p2p42p48p42p48p42p48 => ?_)
          have f_41p2p42p48p42p48p42p48_8 : iR y_41p2p42p48p42p48p42p48 16 1596 := iR_add ey_41p2p42p48p42p48p42p48 f_41p2p42p48p42p48_6 (iR_c (n := 1) (a := 1) (b := 1) (by decide +kernel) (by decide +kernel)) (by decide +kernel)
          refine k_put (D := (dC, dI)) (ci := 6) (v := .int y_41p2p42p48p42p48p42p48) (C := RX6) (T := TX6) (N := 17) (ws' := [(a0, .inr (6, [.ref a0_0, .int y_41p2p42p48p42p48p42p48, .ref b0_2, .ref b0_3, .ref b0_4, .ref b0_5, .ref b0_6, .ref b0_7, .ref b0_8, .null, .int v0_10, .int v0_11, .int v0_12, .ref b0_13, .ref b0_14, .ref b0_15, .ref a0_16])), (a0_0, .inl (cI, 1600, .inl (upd (upd (upd (upd f0_0 v0_1.toNatClampNeg y_33p2) y_41p2.toNatClampNeg y_33p2p42p48) y_41p2p42p48.toNatClampNeg y_33p2p42p48p42p48) y_41p2p42p48p42p48.toNatClampNeg y_33p2p42p48p42p48p42p48)))]) hx hb hts hinX6 tyX6 tyX6_ok nmX6 hown hK hP hD hS 0 rfl rfl 1 (by decide) w_0 rfl rfl rfl rfl (Nat.le_of_ble_eq_true rfl) rfl dX6_feedNumber_42 (fun H locs hP hD hS => ?_)
          refine lv_iinc (v := (-8)) (lv' := [(2, .int (-8)), (0, .ref a0), (1, .int x1)]) hx hb dX6_feedNumber_45 hl (k := 0) rfl (by decide +kernel) (by decide) rfl (fun ls hl => ?_)
          refine lv_goto (tgt := 3) hx hb dX6_feedNumber_48 (by decide) ?_
          refine lv_iload_n hx hb dX6_feedNumber_3 rfl (lv_at hl 0 rfl) ?_
          refine lv_if_lt (tgt := 51) hx hb dX6_feedNumber_4 (by decide) (fun _ => ?_) (fun q9 => absurd q9 (by decide +kernel))
          exact k_rv B hP hD hS dX6_feedNumber_51 ((fun k9 => match k9 with | 0 => y_41p2p42p48p42p48p42p48 | _ => 0), (fun _ => 0), (fun k9 => match k9 with | 0 => (upd (upd (upd (upd f0_0 v0_1.toNatClampNeg y_33p2) y_41p2.toNatClampNeg y_33p2p42p48) y_41p2p42p48.toNatClampNeg y_33p2p42p48p42p48) y_41p2p42p48p42p48.toNatClampNeg y_33p2p42p48p42p48p42p48) | _ => (fun _ => 0)), (fun _ => (fun _ => 0)), (fun _ => 0)) [0, 1] rfl rfl (Nat.le_of_ble_eq_true rfl) (Nat.le_of_ble_eq_true rfl) ⟨(show iR y_41p2p42p48p42p48p42p48 16 1596 from f_41p2p42p48p42p48p42p48_8), (show aR (upd (upd (upd (upd f0_0 v0_1.toNatClampNeg y_33p2) y_41p2.toNatClampNeg y_33p2p42p48) y_41p2p42p48.toNatClampNeg y_33p2p42p48p42p48) y_41p2p42p48p42p48.toNatClampNeg y_33p2p42p48p42p48p42p48) 0 255 from (aR_upd _ (aR_upd _ (aR_upd _ (aR_upd _ hf0_0 f_33p2_1) f_33p2p42p48_3) f_33p2p42p48p42p48_5) f_33p2p42p48p42p48p42p48_7)), (show y_41p2p42p48p42p48p42p48 = tn4 v0_1 from (by rw [ey_41p2p42p48p42p48p42p48, ey_41p2p42p48p42p48, ey_41p2p42p48, ey_41p2]; rfl)), (show (upd (upd (upd (upd f0_0 v0_1.toNatClampNeg y_33p2) y_41p2.toNatClampNeg y_33p2p42p48) y_41p2p42p48.toNatClampNeg y_33p2p42p48p42p48) y_41p2p42p48p42p48.toNatClampNeg y_33p2p42p48p42p48p42p48) = tp4 f0_0 v0_1 x1 from (by rw [ey_33p2p42p48p42p48p42p48, ey_29p2p42p48p42p48p42p48, ey_41p2p42p48p42p48, ey_33p2p42p48p42p48, ey_29p2p42p48p42p48, ey_41p2p42p48, ey_33p2p42p48, ey_29p2p42p48, ey_41p2, ey_33p2, ey_29p2, byu24, byu16, byu8, byu0]; rfl))⟩
set_option maxHeartbeats 8000000 in
set_option maxRecDepth 100000 in
theorem s_X6_feedNumber_v9 (l : Launch) (dC : Nat → ClassId) (dI : Nat → Nat → Nat) (cI cJ cZ cM : ClassId) (a0 : Nat) (x1 : Int32) (a0_0 : Nat) (f0_0 : Nat → Int32) (v0_1 : Int32) (b0_2 : Nat) (b0_3 : Nat) (b0_4 : Nat) (b0_5 : Nat) (b0_6 : Nat) (b0_7 : Nat) (b0_8 : Nat) (v0_10 : Int32) (v0_11 : Int32) (v0_12 : Int32) (b0_13 : Nat) (b0_14 : Nat) (b0_15 : Nat) (a0_16 : Nat) (hxv0_1 : iR v0_1 16 1596) (hv0_1 : iR v0_1 0 1600) (hv0_11 : iR v0_11 1 65535) (hv0_12 : iR v0_12 (-1) 999) (hf0_0 : aR f0_0 0 255) : k_Mv l yX6_feedNumber wsX6_feedNumber ({ frames := 1, cells := 0, slots := 0, locals := 40 }) (dC, dI) vwCl (tyy cI cJ cZ cM) [(a0, .inr (6, [.ref a0_0, .int v0_1, .ref b0_2, .ref b0_3, .ref b0_4, .ref b0_5, .ref b0_6, .ref b0_7, .ref b0_8, .null, .int v0_10, .int v0_11, .int v0_12, .ref b0_13, .ref b0_14, .ref b0_15, .ref a0_16])), (a0_0, .inl (cI, 1600, .inl f0_0))] [.ref a0, .int x1] 0 0 (fun (u9 : SU) => [(a0, .inr (6, [.ref a0_0, .int (u9.1 0), .ref b0_2, .ref b0_3, .ref b0_4, .ref b0_5, .ref b0_6, .ref b0_7, .ref b0_8, .null, .int v0_10, .int v0_11, .int v0_12, .ref b0_13, .ref b0_14, .ref b0_15, .ref a0_16])), (a0_0, .inl (cI, 1600, .inl (u9.2.2.1 0)))]) (fun (u9 : SU) => (iR (u9.1 0) 20 1600) ∧ (aR (u9.2.2.1 0) 0 255) ∧ ((u9.1 0) = tn4 v0_1) ∧ ((u9.2.2.1 0) = tp4 f0_0 v0_1 x1)) := by
  refine fun sz => k_enter (cc := cX6_feedNumber) (maxL := 3) (ret := none) (Qc := fun A => va_Qv (fun (u9 : SU) => (iR (u9.1 0) 20 1600) ∧ (aR (u9.2.2.1 0) 0 255) ∧ ((u9.1 0) = tn4 v0_1) ∧ ((u9.2.2.1 0) = tp4 f0_0 v0_1 x1)) (fun u => k_B (dC, dI) vwCl (tyy cI cJ cZ cM) A ((fun (u9 : SU) => [(a0, .inr (6, [.ref a0_0, .int (u9.1 0), .ref b0_2, .ref b0_3, .ref b0_4, .ref b0_5, .ref b0_6, .ref b0_7, .ref b0_8, .null, .int v0_10, .int v0_11, .int v0_12, .ref b0_13, .ref b0_14, .ref b0_15, .ref a0_16])), (a0_0, .inl (cI, 1600, .inl (u9.2.2.1 0)))]) u)) A) sz (by decide +kernel) rfl (Nat.le_of_ble_eq_true rfl) (fun p e s m args below meth c A ls H locs B hP hD hS hl => ?_)
  obtain ⟨hx, hb, hml, hown, hts, hr, hlk, hnm, hK, hA, hN, hC⟩ := id B
  have hown : s.vm.findClass RX6 = some m.cls := hown
  have hl : lv_has ls 3 [(0, .ref a0), (1, .int x1)] := hl
  have w_0 : (Cond.fieldLink RX6 92 "WishSea" "tapeLength" "I").before args s = true := hts _ (List.mem_of_getElem? (i := 1) rfl)
  have w_1 : (Cond.fieldLink RX6 9 "WishSea" "tape" "[I").before args s = true := hts _ (List.mem_of_getElem? (i := 2) rfl)
  have hinX6 : ∀ w ∈ u_ws RX6 TX6 17, w ∈ wsX6_feedNumber := fun _ h => List.mem_cons_of_mem _ (List.mem_append_right _ h)
  refine lv_bipush (v := 24) hx hb dX6_feedNumber_0 (by decide +kernel) ?_
  refine lv_istore_n (lv' := [(2, .int 24), (0, .ref a0), (1, .int x1)]) hx hb dX6_feedNumber_2 rfl hl (by decide) rfl (fun ls hl => ?_)
  refine lv_iload_n hx hb dX6_feedNumber_3 rfl (lv_at hl 0 rfl) ?_
  refine lv_if_lt (tgt := 51) hx hb dX6_feedNumber_4 (by decide) (fun q9 => absurd q9 (by decide +kernel)) (fun _ => ?_)
  refine lv_aload_n hx hb dX6_feedNumber_7 rfl (lv_at hl 1 rfl) ?_
  refine k_get (D := (dC, dI)) (ci := 6) (v := .int v0_1) (C := RX6) (T := TX6) (N := 17) hx hb hts hinX6 hown hK hP 0 rfl rfl 1 (by decide) w_0 rfl rfl dX6_feedNumber_8 ?_
  refine lv_aload_n hx hb dX6_feedNumber_11 rfl (lv_at hl 1 rfl) ?_
  refine k_get (D := (dC, dI)) (ci := 6) (v := .ref a0_0) (C := RX6) (T := TX6) (N := 17) hx hb hts hinX6 hown hK hP 0 rfl rfl 0 (by decide) w_1 rfl rfl dX6_feedNumber_12 ?_
  refine va_alen (v := 1600) hx hb hK hP 1 0 rfl rfl rfl dX6_feedNumber_15 ?_
  refine lv_icmp_ge (tgt := 45) hx hb dX6_feedNumber_16 (by decide) (fun c_16p2 => ?_) (fun c_16p2 => ?_)
  · exact iR_cl (iR_leL (a' := 1600) (b' := 1596) c_16p2 (iR_c (n := 1600) (a := 1600) (b := 1600) (by decide +kernel) (by decide +kernel)) hxv0_1 (by decide +kernel)) (by decide +kernel)
  · have c_16p2 : v0_1 < 1600 := i_nle c_16p2
    refine lv_aload_n hx hb dX6_feedNumber_19 rfl (lv_at hl 1 rfl) ?_
    refine k_get (D := (dC, dI)) (ci := 6) (v := .ref a0_0) (C := RX6) (T := TX6) (N := 17) hx hb hts hinX6 hown hK hP 0 rfl rfl 0 (by decide) w_1 rfl rfl dX6_feedNumber_20 ?_
    refine lv_aload_n hx hb dX6_feedNumber_23 rfl (lv_at hl 1 rfl) ?_
    refine k_get (D := (dC, dI)) (ci := 6) (v := .int v0_1) (C := RX6) (T := TX6) (N := 17) hx hb hts hinX6 hown hK hP 0 rfl rfl 1 (by decide) w_0 rfl rfl dX6_feedNumber_24 ?_
    refine lv_iload_n hx hb dX6_feedNumber_27 rfl (lv_at hl 2 rfl) ?_
    refine lv_iload_n hx hb dX6_feedNumber_28 rfl (lv_at hl 0 rfl) ?_
    refine lv_iushr (v := (x1.toUInt32 >>> ((24 : Int32).toUInt32 &&& Int32.toUInt32 31)).toInt32) hx hb dX6_feedNumber_29 rfl ?_
    refine lv_topi (fun y_29p2 ey_29p2 => ?_)
    refine lv_sipush (v := 255) hx hb dX6_feedNumber_30 (by decide +kernel) ?_
    refine lv_iand hx hb dX6_feedNumber_33 ?_
    refine lv_topi (fun y_33p2 ey_33p2 => ?_)
    have f_33p2_1 : iR y_33p2 0 255 := iR_andR ey_33p2 (iR_c (n := 255) (a := 255) (b := 255) (by decide +kernel) (by decide +kernel)) (by decide +kernel)
    refine s_iast (g := (upd f0_0 v0_1.toNatClampNeg y_33p2)) (ws' := [(a0, .inr (6, [.ref a0_0, .int v0_1, .ref b0_2, .ref b0_3, .ref b0_4, .ref b0_5, .ref b0_6, .ref b0_7, .ref b0_8, .null, .int v0_10, .int v0_11, .int v0_12, .ref b0_13, .ref b0_14, .ref b0_15, .ref a0_16])), (a0_0, .inl (cI, 1600, .inl (upd f0_0 v0_1.toNatClampNeg y_33p2)))]) hx hb hK hP hD hS 1 0 rfl rfl (iR_vp hxv0_1 (by decide +kernel)) rfl rfl dX6_feedNumber_34 (fun H locs hP hD hS => ?_)
    refine lv_aload_n hx hb dX6_feedNumber_35 rfl (lv_at hl 1 rfl) ?_
    refine lv_dup hx hb dX6_feedNumber_36 rfl ?_
    refine k_get (D := (dC, dI)) (ci := 6) (v := .int v0_1) (C := RX6) (T := TX6) (N := 17) hx hb hts hinX6 hown hK hP 0 rfl rfl 1 (by decide) w_0 rfl rfl dX6_feedNumber_37 ?_
    refine lv_iconst (v := 1) hx hb dX6_feedNumber_40 (by decide +kernel) ?_
    refine lv_iadd hx hb dX6_feedNumber_41 ?_
    refine lv_topi (fun y_41p2 ey_41p2 => ?_)
    have f_41p2_2 : iR y_41p2 17 1597 := iR_add ey_41p2 hxv0_1 (iR_c (n := 1) (a := 1) (b := 1) (by decide +kernel) (by decide +kernel)) (by decide +kernel)
    refine k_put (D := (dC, dI)) (ci := 6) (v := .int y_41p2) (C := RX6) (T := TX6) (N := 17) (ws' := [(a0, .inr (6, [.ref a0_0, .int y_41p2, .ref b0_2, .ref b0_3, .ref b0_4, .ref b0_5, .ref b0_6, .ref b0_7, .ref b0_8, .null, .int v0_10, .int v0_11, .int v0_12, .ref b0_13, .ref b0_14, .ref b0_15, .ref a0_16])), (a0_0, .inl (cI, 1600, .inl (upd f0_0 v0_1.toNatClampNeg y_33p2)))]) hx hb hts hinX6 tyX6 tyX6_ok nmX6 hown hK hP hD hS 0 rfl rfl 1 (by decide) w_0 rfl rfl rfl rfl (Nat.le_of_ble_eq_true rfl) rfl dX6_feedNumber_42 (fun H locs hP hD hS => ?_)
    refine lv_iinc (v := 16) (lv' := [(2, .int 16), (0, .ref a0), (1, .int x1)]) hx hb dX6_feedNumber_45 hl (k := 0) rfl (by decide +kernel) (by decide) rfl (fun ls hl => ?_)
    refine lv_goto (tgt := 3) hx hb dX6_feedNumber_48 (by decide) ?_
    refine lv_iload_n hx hb dX6_feedNumber_3 rfl (lv_at hl 0 rfl) ?_
    refine lv_if_lt (tgt := 51) hx hb dX6_feedNumber_4 (by decide) (fun q9 => absurd q9 (by decide +kernel)) (fun _ => ?_)
    refine lv_aload_n hx hb dX6_feedNumber_7 rfl (lv_at hl 1 rfl) ?_
    refine k_get (D := (dC, dI)) (ci := 6) (v := .int y_41p2) (C := RX6) (T := TX6) (N := 17) hx hb hts hinX6 hown hK hP 0 rfl rfl 1 (by decide) w_0 rfl rfl dX6_feedNumber_8 ?_
    refine lv_aload_n hx hb dX6_feedNumber_11 rfl (lv_at hl 1 rfl) ?_
    refine k_get (D := (dC, dI)) (ci := 6) (v := .ref a0_0) (C := RX6) (T := TX6) (N := 17) hx hb hts hinX6 hown hK hP 0 rfl rfl 0 (by decide) w_1 rfl rfl dX6_feedNumber_12 ?_
    refine va_alen (v := 1600) hx hb hK hP 1 0 rfl rfl rfl dX6_feedNumber_15 ?_
    refine lv_icmp_ge (tgt := 45) hx hb dX6_feedNumber_16 (by decide) (fun c_16p2p42p48 => ?_) (fun c_16p2p42p48 => ?_)
    · exact iR_cl (iR_leL (a' := 1600) (b' := 1597) c_16p2p42p48 (iR_c (n := 1600) (a := 1600) (b := 1600) (by decide +kernel) (by decide +kernel)) f_41p2_2 (by decide +kernel)) (by decide +kernel)
    · have c_16p2p42p48 : y_41p2 < 1600 := i_nle c_16p2p42p48
      refine lv_aload_n hx hb dX6_feedNumber_19 rfl (lv_at hl 1 rfl) ?_
      refine k_get (D := (dC, dI)) (ci := 6) (v := .ref a0_0) (C := RX6) (T := TX6) (N := 17) hx hb hts hinX6 hown hK hP 0 rfl rfl 0 (by decide) w_1 rfl rfl dX6_feedNumber_20 ?_
      refine lv_aload_n hx hb dX6_feedNumber_23 rfl (lv_at hl 1 rfl) ?_
      refine k_get (D := (dC, dI)) (ci := 6) (v := .int y_41p2) (C := RX6) (T := TX6) (N := 17) hx hb hts hinX6 hown hK hP 0 rfl rfl 1 (by decide) w_0 rfl rfl dX6_feedNumber_24 ?_
      refine lv_iload_n hx hb dX6_feedNumber_27 rfl (lv_at hl 2 rfl) ?_
      refine lv_iload_n hx hb dX6_feedNumber_28 rfl (lv_at hl 0 rfl) ?_
      refine lv_iushr (v := (x1.toUInt32 >>> ((16 : Int32).toUInt32 &&& Int32.toUInt32 31)).toInt32) hx hb dX6_feedNumber_29 rfl ?_
      refine lv_topi (fun y_29p2p42p48 ey_29p2p42p48 => ?_)
      refine lv_sipush (v := 255) hx hb dX6_feedNumber_30 (by decide +kernel) ?_
      refine lv_iand hx hb dX6_feedNumber_33 ?_
      refine lv_topi (fun y_33p2p42p48 ey_33p2p42p48 => ?_)
      have f_33p2p42p48_3 : iR y_33p2p42p48 0 255 := iR_andR ey_33p2p42p48 (iR_c (n := 255) (a := 255) (b := 255) (by decide +kernel) (by decide +kernel)) (by decide +kernel)
      refine s_iast (g := (upd (upd f0_0 v0_1.toNatClampNeg y_33p2) y_41p2.toNatClampNeg y_33p2p42p48)) (ws' := [(a0, .inr (6, [.ref a0_0, .int y_41p2, .ref b0_2, .ref b0_3, .ref b0_4, .ref b0_5, .ref b0_6, .ref b0_7, .ref b0_8, .null, .int v0_10, .int v0_11, .int v0_12, .ref b0_13, .ref b0_14, .ref b0_15, .ref a0_16])), (a0_0, .inl (cI, 1600, .inl (upd (upd f0_0 v0_1.toNatClampNeg y_33p2) y_41p2.toNatClampNeg y_33p2p42p48)))]) hx hb hK hP hD hS 1 0 rfl rfl (iR_vp f_41p2_2 (by decide +kernel)) rfl rfl dX6_feedNumber_34 (fun H locs hP hD hS => ?_)
      refine lv_aload_n hx hb dX6_feedNumber_35 rfl (lv_at hl 1 rfl) ?_
      refine lv_dup hx hb dX6_feedNumber_36 rfl ?_
      refine k_get (D := (dC, dI)) (ci := 6) (v := .int y_41p2) (C := RX6) (T := TX6) (N := 17) hx hb hts hinX6 hown hK hP 0 rfl rfl 1 (by decide) w_0 rfl rfl dX6_feedNumber_37 ?_
      refine lv_iconst (v := 1) hx hb dX6_feedNumber_40 (by decide +kernel) ?_
      refine lv_iadd hx hb dX6_feedNumber_41 ?_
      refine lv_topi (fun y_41p2p42p48 ey_41p2p42p48 => ?_)
      have f_41p2p42p48_4 : iR y_41p2p42p48 18 1598 := iR_add ey_41p2p42p48 f_41p2_2 (iR_c (n := 1) (a := 1) (b := 1) (by decide +kernel) (by decide +kernel)) (by decide +kernel)
      refine k_put (D := (dC, dI)) (ci := 6) (v := .int y_41p2p42p48) (C := RX6) (T := TX6) (N := 17) (ws' := [(a0, .inr (6, [.ref a0_0, .int y_41p2p42p48, .ref b0_2, .ref b0_3, .ref b0_4, .ref b0_5, .ref b0_6, .ref b0_7, .ref b0_8, .null, .int v0_10, .int v0_11, .int v0_12, .ref b0_13, .ref b0_14, .ref b0_15, .ref a0_16])), (a0_0, .inl (cI, 1600, .inl (upd (upd f0_0 v0_1.toNatClampNeg y_33p2) y_41p2.toNatClampNeg y_33p2p42p48)))]) hx hb hts hinX6 tyX6 tyX6_ok nmX6 hown hK hP hD hS 0 rfl rfl 1 (by decide) w_0 rfl rfl rfl rfl (Nat.le_of_ble_eq_true rfl) rfl dX6_feedNumber_42 (fun H locs hP hD hS => ?_)
      refine lv_iinc (v := 8) (lv' := [(2, .int 8), (0, .ref a0), (1, .int x1)]) hx hb dX6_feedNumber_45 hl (k := 0) rfl (by decide +kernel) (by decide) rfl (fun ls hl => ?_)
      refine lv_goto (tgt := 3) hx hb dX6_feedNumber_48 (by decide) ?_
      refine lv_iload_n hx hb dX6_feedNumber_3 rfl (lv_at hl 0 rfl) ?_
      refine lv_if_lt (tgt := 51) hx hb dX6_feedNumber_4 (by decide) (fun q9 => absurd q9 (by decide +kernel)) (fun _ => ?_)
      refine lv_aload_n hx hb dX6_feedNumber_7 rfl (lv_at hl 1 rfl) ?_
      refine k_get (D := (dC, dI)) (ci := 6) (v := .int y_41p2p42p48) (C := RX6) (T := TX6) (N := 17) hx hb hts hinX6 hown hK hP 0 rfl rfl 1 (by decide) w_0 rfl rfl dX6_feedNumber_8 ?_
      refine lv_aload_n hx hb dX6_feedNumber_11 rfl (lv_at hl 1 rfl) ?_
      refine k_get (D := (dC, dI)) (ci := 6) (v := .ref a0_0) (C := RX6) (T := TX6) (N := 17) hx hb hts hinX6 hown hK hP 0 rfl rfl 0 (by decide) w_1 rfl rfl dX6_feedNumber_12 ?_
      refine va_alen (v := 1600) hx hb hK hP 1 0 rfl rfl rfl dX6_feedNumber_15 ?_
      refine lv_icmp_ge (tgt := 45) hx hb dX6_feedNumber_16 (by decide) (fun c_16p2p42p48p42p48 => ?_) (fun c_16p2p42p48p42p48 => ?_)
      · exact iR_cl (iR_leL (a' := 1600) (b' := 1598) c_16p2p42p48p42p48 (iR_c (n := 1600) (a := 1600) (b := 1600) (by decide +kernel) (by decide +kernel)) f_41p2p42p48_4 (by decide +kernel)) (by decide +kernel)
      · have c_16p2p42p48p42p48 : y_41p2p42p48 < 1600 := i_nle c_16p2p42p48p42p48
        refine lv_aload_n hx hb dX6_feedNumber_19 rfl (lv_at hl 1 rfl) ?_
        refine k_get (D := (dC, dI)) (ci := 6) (v := .ref a0_0) (C := RX6) (T := TX6) (N := 17) hx hb hts hinX6 hown hK hP 0 rfl rfl 0 (by decide) w_1 rfl rfl dX6_feedNumber_20 ?_
        refine lv_aload_n hx hb dX6_feedNumber_23 rfl (lv_at hl 1 rfl) ?_
        refine k_get (D := (dC, dI)) (ci := 6) (v := .int y_41p2p42p48) (C := RX6) (T := TX6) (N := 17) hx hb hts hinX6 hown hK hP 0 rfl rfl 1 (by decide) w_0 rfl rfl dX6_feedNumber_24 ?_
        refine lv_iload_n hx hb dX6_feedNumber_27 rfl (lv_at hl 2 rfl) ?_
        refine lv_iload_n hx hb dX6_feedNumber_28 rfl (lv_at hl 0 rfl) ?_
        refine lv_iushr (v := (x1.toUInt32 >>> ((8 : Int32).toUInt32 &&& Int32.toUInt32 31)).toInt32) hx hb dX6_feedNumber_29 rfl ?_
        refine lv_topi (fun y_29p2p42p48p42p48 ey_29p2p42p48p42p48 => ?_)
        refine lv_sipush (v := 255) hx hb dX6_feedNumber_30 (by decide +kernel) ?_
        refine lv_iand hx hb dX6_feedNumber_33 ?_
        refine lv_topi (fun y_33p2p42p48p42p48 ey_33p2p42p48p42p48 => ?_)
        have f_33p2p42p48p42p48_5 : iR y_33p2p42p48p42p48 0 255 := iR_andR ey_33p2p42p48p42p48 (iR_c (n := 255) (a := 255) (b := 255) (by decide +kernel) (by decide +kernel)) (by decide +kernel)
        refine s_iast (g := (upd (upd (upd f0_0 v0_1.toNatClampNeg y_33p2) y_41p2.toNatClampNeg y_33p2p42p48) y_41p2p42p48.toNatClampNeg y_33p2p42p48p42p48)) (ws' := [(a0, .inr (6, [.ref a0_0, .int y_41p2p42p48, .ref b0_2, .ref b0_3, .ref b0_4, .ref b0_5, .ref b0_6, .ref b0_7, .ref b0_8, .null, .int v0_10, .int v0_11, .int v0_12, .ref b0_13, .ref b0_14, .ref b0_15, .ref a0_16])), (a0_0, .inl (cI, 1600, .inl (upd (upd (upd f0_0 v0_1.toNatClampNeg y_33p2) y_41p2.toNatClampNeg y_33p2p42p48) y_41p2p42p48.toNatClampNeg y_33p2p42p48p42p48)))]) hx hb hK hP hD hS 1 0 rfl rfl (iR_vp f_41p2p42p48_4 (by decide +kernel)) rfl rfl dX6_feedNumber_34 (fun H locs hP hD hS => ?_)
        refine lv_aload_n hx hb dX6_feedNumber_35 rfl (lv_at hl 1 rfl) ?_
        refine lv_dup hx hb dX6_feedNumber_36 rfl ?_
        refine k_get (D := (dC, dI)) (ci := 6) (v := .int y_41p2p42p48) (C := RX6) (T := TX6) (N := 17) hx hb hts hinX6 hown hK hP 0 rfl rfl 1 (by decide) w_0 rfl rfl dX6_feedNumber_37 ?_
        refine lv_iconst (v := 1) hx hb dX6_feedNumber_40 (by decide +kernel) ?_
        refine lv_iadd hx hb dX6_feedNumber_41 ?_
        refine lv_topi (fun y_41p2p42p48p42p48 ey_41p2p42p48p42p48 => ?_)
        have f_41p2p42p48p42p48_6 : iR y_41p2p42p48p42p48 19 1599 := iR_add ey_41p2p42p48p42p48 f_41p2p42p48_4 (iR_c (n := 1) (a := 1) (b := 1) (by decide +kernel) (by decide +kernel)) (by decide +kernel)
        refine k_put (D := (dC, dI)) (ci := 6) (v := .int y_41p2p42p48p42p48) (C := RX6) (T := TX6) (N := 17) (ws' := [(a0, .inr (6, [.ref a0_0, .int y_41p2p42p48p42p48, .ref b0_2, .ref b0_3, .ref b0_4, .ref b0_5, .ref b0_6, .ref b0_7, .ref b0_8, .null, .int v0_10, .int v0_11, .int v0_12, .ref b0_13, .ref b0_14, .ref b0_15, .ref a0_16])), (a0_0, .inl (cI, 1600, .inl (upd (upd (upd f0_0 v0_1.toNatClampNeg y_33p2) y_41p2.toNatClampNeg y_33p2p42p48) y_41p2p42p48.toNatClampNeg y_33p2p42p48p42p48)))]) hx hb hts hinX6 tyX6 tyX6_ok nmX6 hown hK hP hD hS 0 rfl rfl 1 (by decide) w_0 rfl rfl rfl rfl (Nat.le_of_ble_eq_true rfl) rfl dX6_feedNumber_42 (fun H locs hP hD hS => ?_)
        refine lv_iinc (v := 0) (lv' := [(2, .int 0), (0, .ref a0), (1, .int x1)]) hx hb dX6_feedNumber_45 hl (k := 0) rfl (by decide +kernel) (by decide) rfl (fun ls hl => ?_)
        refine lv_goto (tgt := 3) hx hb dX6_feedNumber_48 (by decide) ?_
        refine lv_iload_n hx hb dX6_feedNumber_3 rfl (lv_at hl 0 rfl) ?_
        refine lv_if_lt (tgt := 51) hx hb dX6_feedNumber_4 (by decide) (fun q9 => absurd q9 (by decide +kernel)) (fun _ => ?_)
        refine lv_aload_n hx hb dX6_feedNumber_7 rfl (lv_at hl 1 rfl) ?_
        refine k_get (D := (dC, dI)) (ci := 6) (v := .int y_41p2p42p48p42p48) (C := RX6) (T := TX6) (N := 17) hx hb hts hinX6 hown hK hP 0 rfl rfl 1 (by decide) w_0 rfl rfl dX6_feedNumber_8 ?_
        refine lv_aload_n hx hb dX6_feedNumber_11 rfl (lv_at hl 1 rfl) ?_
        refine k_get (D := (dC, dI)) (ci := 6) (v := .ref a0_0) (C := RX6) (T := TX6) (N := 17) hx hb hts hinX6 hown hK hP 0 rfl rfl 0 (by decide) w_1 rfl rfl dX6_feedNumber_12 ?_
        refine va_alen (v := 1600) hx hb hK hP 1 0 rfl rfl rfl dX6_feedNumber_15 ?_
        refine lv_icmp_ge (tgt := 45) hx hb dX6_feedNumber_16 (by decide) (fun c_16p2p42p48p42p48p42p48 => ?_) (fun c_16p2p42p48p42p48p42p48 => ?_)
        · exact iR_cl (iR_leL (a' := 1600) (b' := 1599) c_16p2p42p48p42p48p42p48 (iR_c (n := 1600) (a := 1600) (b := 1600) (by decide +kernel) (by decide +kernel)) f_41p2p42p48p42p48_6 (by decide +kernel)) (by decide +kernel)
        · have c_16p2p42p48p42p48p42p48 : y_41p2p42p48p42p48 < 1600 := i_nle c_16p2p42p48p42p48p42p48
          refine lv_aload_n hx hb dX6_feedNumber_19 rfl (lv_at hl 1 rfl) ?_
          refine k_get (D := (dC, dI)) (ci := 6) (v := .ref a0_0) (C := RX6) (T := TX6) (N := 17) hx hb hts hinX6 hown hK hP 0 rfl rfl 0 (by decide) w_1 rfl rfl dX6_feedNumber_20 ?_
          refine lv_aload_n hx hb dX6_feedNumber_23 rfl (lv_at hl 1 rfl) ?_
          refine k_get (D := (dC, dI)) (ci := 6) (v := .int y_41p2p42p48p42p48) (C := RX6) (T := TX6) (N := 17) hx hb hts hinX6 hown hK hP 0 rfl rfl 1 (by decide) w_0 rfl rfl dX6_feedNumber_24 ?_
          refine lv_iload_n hx hb dX6_feedNumber_27 rfl (lv_at hl 2 rfl) ?_
          refine lv_iload_n hx hb dX6_feedNumber_28 rfl (lv_at hl 0 rfl) ?_
          refine lv_iushr (v := (x1.toUInt32 >>> ((0 : Int32).toUInt32 &&& Int32.toUInt32 31)).toInt32) hx hb dX6_feedNumber_29 rfl ?_
          refine lv_topi (fun y_29p2p42p48p42p48p42p48 ey_29p2p42p48p42p48p42p48 => ?_)
          refine lv_sipush (v := 255) hx hb dX6_feedNumber_30 (by decide +kernel) ?_
          refine lv_iand hx hb dX6_feedNumber_33 ?_
          refine lv_topi (fun y_33p2p42p48p42p48p42p48 ey_33p2p42p48p42p48p42p48 => ?_)
          have f_33p2p42p48p42p48p42p48_7 : iR y_33p2p42p48p42p48p42p48 0 255 := iR_andR ey_33p2p42p48p42p48p42p48 (iR_c (n := 255) (a := 255) (b := 255) (by decide +kernel) (by decide +kernel)) (by decide +kernel)
          refine s_iast (g := (upd (upd (upd (upd f0_0 v0_1.toNatClampNeg y_33p2) y_41p2.toNatClampNeg y_33p2p42p48) y_41p2p42p48.toNatClampNeg y_33p2p42p48p42p48) y_41p2p42p48p42p48.toNatClampNeg y_33p2p42p48p42p48p42p48)) (ws' := [(a0, .inr (6, [.ref a0_0, .int y_41p2p42p48p42p48, .ref b0_2, .ref b0_3, .ref b0_4, .ref b0_5, .ref b0_6, .ref b0_7, .ref b0_8, .null, .int v0_10, .int v0_11, .int v0_12, .ref b0_13, .ref b0_14, .ref b0_15, .ref a0_16])), (a0_0, .inl (cI, 1600, .inl (upd (upd (upd (upd f0_0 v0_1.toNatClampNeg y_33p2) y_41p2.toNatClampNeg y_33p2p42p48) y_41p2p42p48.toNatClampNeg y_33p2p42p48p42p48) y_41p2p42p48p42p48.toNatClampNeg y_33p2p42p48p42p48p42p48)))]) hx hb hK hP hD hS 1 0 rfl rfl (iR_vp f_41p2p42p48p42p48_6 (by decide +kernel)) rfl rfl dX6_feedNumber_34 (fun H locs hP hD hS => ?_)
          refine lv_aload_n hx hb dX6_feedNumber_35 rfl (lv_at hl 1 rfl) ?_
          refine lv_dup hx hb dX6_feedNumber_36 rfl ?_
          refine k_get (D := (dC, dI)) (ci := 6) (v := .int y_41p2p42p48p42p48) (C := RX6) (T := TX6) (N := 17) hx hb hts hinX6 hown hK hP 0 rfl rfl 1 (by decide) w_0 rfl rfl dX6_feedNumber_37 ?_
          refine lv_iconst (v := 1) hx hb dX6_feedNumber_40 (by decide +kernel) ?_
          refine lv_iadd hx hb dX6_feedNumber_41 ?_
          refine lv_topi (fun y_41p2p42p48p42p48p42p48 ey_41p2p42p48p42p48p42p48 => ?_)
          have f_41p2p42p48p42p48p42p48_8 : iR y_41p2p42p48p42p48p42p48 20 1600 := iR_add ey_41p2p42p48p42p48p42p48 f_41p2p42p48p42p48_6 (iR_c (n := 1) (a := 1) (b := 1) (by decide +kernel) (by decide +kernel)) (by decide +kernel)
          refine k_put (D := (dC, dI)) (ci := 6) (v := .int y_41p2p42p48p42p48p42p48) (C := RX6) (T := TX6) (N := 17) (ws' := [(a0, .inr (6, [.ref a0_0, .int y_41p2p42p48p42p48p42p48, .ref b0_2, .ref b0_3, .ref b0_4, .ref b0_5, .ref b0_6, .ref b0_7, .ref b0_8, .null, .int v0_10, .int v0_11, .int v0_12, .ref b0_13, .ref b0_14, .ref b0_15, .ref a0_16])), (a0_0, .inl (cI, 1600, .inl (upd (upd (upd (upd f0_0 v0_1.toNatClampNeg y_33p2) y_41p2.toNatClampNeg y_33p2p42p48) y_41p2p42p48.toNatClampNeg y_33p2p42p48p42p48) y_41p2p42p48p42p48.toNatClampNeg y_33p2p42p48p42p48p42p48)))]) hx hb hts hinX6 tyX6 tyX6_ok nmX6 hown hK hP hD hS 0 rfl rfl 1 (by decide) w_0 rfl rfl rfl rfl (Nat.le_of_ble_eq_true rfl) rfl dX6_feedNumber_42 (fun H locs hP hD hS => ?_)
          refine lv_iinc (v := (-8)) (lv' := [(2, .int (-8)), (0, .ref a0), (1, .int x1)]) hx hb dX6_feedNumber_45 hl (k := 0) rfl (by decide +kernel) (by decide) rfl (fun ls hl => ?_)
          refine lv_goto (tgt := 3) hx hb dX6_feedNumber_48 (by decide) ?_
          refine lv_iload_n hx hb dX6_feedNumber_3 rfl (lv_at hl 0 rfl) ?_
          refine lv_if_lt (tgt := 51) hx hb dX6_feedNumber_4 (by decide) (fun _ => ?_) (fun q9 => absurd q9 (by decide +kernel))
          exact k_rv B hP hD hS dX6_feedNumber_51 ((fun k9 => match k9 with | 0 => y_41p2p42p48p42p48p42p48 | _ => 0), (fun _ => 0), (fun k9 => match k9 with | 0 => (upd (upd (upd (upd f0_0 v0_1.toNatClampNeg y_33p2) y_41p2.toNatClampNeg y_33p2p42p48) y_41p2p42p48.toNatClampNeg y_33p2p42p48p42p48) y_41p2p42p48p42p48.toNatClampNeg y_33p2p42p48p42p48p42p48) | _ => (fun _ => 0)), (fun _ => (fun _ => 0)), (fun _ => 0)) [0, 1] rfl rfl (Nat.le_of_ble_eq_true rfl) (Nat.le_of_ble_eq_true rfl) ⟨(show iR y_41p2p42p48p42p48p42p48 20 1600 from f_41p2p42p48p42p48p42p48_8), (show aR (upd (upd (upd (upd f0_0 v0_1.toNatClampNeg y_33p2) y_41p2.toNatClampNeg y_33p2p42p48) y_41p2p42p48.toNatClampNeg y_33p2p42p48p42p48) y_41p2p42p48p42p48.toNatClampNeg y_33p2p42p48p42p48p42p48) 0 255 from (aR_upd _ (aR_upd _ (aR_upd _ (aR_upd _ hf0_0 f_33p2_1) f_33p2p42p48_3) f_33p2p42p48p42p48_5) f_33p2p42p48p42p48p42p48_7)), (show y_41p2p42p48p42p48p42p48 = tn4 v0_1 from (by rw [ey_41p2p42p48p42p48p42p48, ey_41p2p42p48p42p48, ey_41p2p42p48, ey_41p2]; rfl)), (show (upd (upd (upd (upd f0_0 v0_1.toNatClampNeg y_33p2) y_41p2.toNatClampNeg y_33p2p42p48) y_41p2p42p48.toNatClampNeg y_33p2p42p48p42p48) y_41p2p42p48p42p48.toNatClampNeg y_33p2p42p48p42p48p42p48) = tp4 f0_0 v0_1 x1 from (by rw [ey_33p2p42p48p42p48p42p48, ey_29p2p42p48p42p48p42p48, ey_41p2p42p48p42p48, ey_33p2p42p48p42p48, ey_29p2p42p48p42p48, ey_41p2p42p48, ey_33p2p42p48, ey_29p2p42p48, ey_41p2, ey_33p2, ey_29p2, byu24, byu16, byu8, byu0]; rfl))⟩
set_option maxHeartbeats 8000000 in
set_option maxRecDepth 100000 in
theorem s_X6_refuse_v1 (l : Launch) (dC : Nat → ClassId) (dI : Nat → Nat → Nat) (cI cJ cZ cM : ClassId) (a0 : Nat) (x1 : Int32) (a0_0 : Nat) (v0_1 : Int32) (b0_2 : Nat) (b0_3 : Nat) (b0_4 : Nat) (b0_5 : Nat) (b0_6 : Nat) (b0_7 : Nat) (b0_8 : Nat) (v0_10 : Int32) (v0_11 : Int32) (v0_12 : Int32) (b0_13 : Nat) (b0_14 : Nat) (b0_15 : Nat) (a0_16 : Nat) (f0_16 : Nat → Int32) (hv0_1 : iR v0_1 0 1600) (hv0_11 : iR v0_11 1 65535) (hv0_12 : iR v0_12 (-1) 999) : k_Mi l yX6_refuse wsX6_refuse ({ frames := 1, cells := 0, slots := 0, locals := 40 }) (dC, dI) vwCl (tyy cI cJ cZ cM) [(a0, .inr (6, [.ref a0_0, .int v0_1, .ref b0_2, .ref b0_3, .ref b0_4, .ref b0_5, .ref b0_6, .ref b0_7, .ref b0_8, .null, .int v0_10, .int v0_11, .int v0_12, .ref b0_13, .ref b0_14, .ref b0_15, .ref a0_16])), (a0_16, .inl (cI, 6, .inl f0_16))] [.ref a0, .int x1] 0 0 (fun (u9 : SU) => [(a0, .inr (6, [.ref a0_0, .int v0_1, .ref b0_2, .ref b0_3, .ref b0_4, .ref b0_5, .ref b0_6, .ref b0_7, .ref b0_8, .null, .int v0_10, .int v0_11, .int v0_12, .ref b0_13, .ref b0_14, .ref b0_15, .ref a0_16])), (a0_16, .inl (cI, 6, .inl (u9.2.2.1 0)))]) (fun (r9 : Int32) (u9 : SU) => (r9 = (-1))) := by
  refine fun sz => k_enter (cc := cX6_refuse) (maxL := 2) (ret := some (.int)) (Qc := fun A => va_Qi (fun (r9 : Int32) (u9 : SU) => (r9 = (-1))) (fun u => k_B (dC, dI) vwCl (tyy cI cJ cZ cM) A ((fun (u9 : SU) => [(a0, .inr (6, [.ref a0_0, .int v0_1, .ref b0_2, .ref b0_3, .ref b0_4, .ref b0_5, .ref b0_6, .ref b0_7, .ref b0_8, .null, .int v0_10, .int v0_11, .int v0_12, .ref b0_13, .ref b0_14, .ref b0_15, .ref a0_16])), (a0_16, .inl (cI, 6, .inl (u9.2.2.1 0)))]) u)) A) sz (by decide +kernel) rfl (Nat.le_of_ble_eq_true rfl) (fun p e s m args below meth c A ls H locs B hP hD hS hl => ?_)
  obtain ⟨hx, hb, hml, hown, hts, hr, hlk, hnm, hK, hA, hN, hC⟩ := id B
  have hown : s.vm.findClass RX6 = some m.cls := hown
  have hl : lv_has ls 2 [(0, .ref a0), (1, .int x1)] := hl
  have w_0 : (Cond.fieldLink RX6 78 "WishSea" "refused" "[I").before args s = true := hts _ (List.mem_of_getElem? (i := 1) rfl)
  have hinX6 : ∀ w ∈ u_ws RX6 TX6 17, w ∈ wsX6_refuse := fun _ h => List.mem_cons_of_mem _ (List.mem_append_right _ h)
  refine lv_iload_n hx hb dX6_refuse_0 rfl (lv_at hl 1 rfl) ?_
  have J_23 : ∀ (j23_A1 : Nat → Int32)  (H : Heap) (locs : List Loc) (ls : Array Slot), va_P (dC, dI) vwCl [(a0, .inr (6, [.ref a0_0, .int v0_1, .ref b0_2, .ref b0_3, .ref b0_4, .ref b0_5, .ref b0_6, .ref b0_7, .ref b0_8, .null, .int v0_10, .int v0_11, .int v0_12, .ref b0_13, .ref b0_14, .ref b0_15, .ref a0_16])), (a0_16, .inl (cI, 6, .inl j23_A1))] H → va_D A [(a0, .inr (6, [.ref a0_0, .int v0_1, .ref b0_2, .ref b0_3, .ref b0_4, .ref b0_5, .ref b0_6, .ref b0_7, .ref b0_8, .null, .int v0_10, .int v0_11, .int v0_12, .ref b0_13, .ref b0_14, .ref b0_15, .ref a0_16])), (a0_16, .inl (cI, 6, .inl j23_A1))] → va_S A s.heap H locs → lv_has ls 2 [] → W p l e ({ frames := 1, cells := 0, slots := 0, locals := 40 }) s m args below meth c H locs 0 0 (MQ below (va_Qi (fun (r9 : Int32) (u9 : SU) => (r9 = (-1))) (fun u => k_B (dC, dI) vwCl (tyy cI cJ cZ cM) A ((fun (u9 : SU) => [(a0, .inr (6, [.ref a0_0, .int v0_1, .ref b0_2, .ref b0_3, .ref b0_4, .ref b0_5, .ref b0_6, .ref b0_7, .ref b0_8, .null, .int v0_10, .int v0_11, .int v0_12, .ref b0_13, .ref b0_14, .ref b0_15, .ref a0_16])), (a0_16, .inl (cI, 6, .inl (u9.2.2.1 0)))]) u)) A) args s 0 0 A) (F0 m 23 ls []) := by
    intro j23_A1  H locs ls hP hD hS hl
    refine lv_iconst (v := (-1)) hx hb dX6_refuse_23 (by decide +kernel) ?_
    exact k_ri B hP hD hS dX6_refuse_24 ((fun _ => 0), (fun _ => 0), (fun k9 => match k9 with | 0 => j23_A1 | _ => (fun _ => 0)), (fun _ => (fun _ => 0)), (fun _ => 0)) [0, 1] rfl rfl rfl (Nat.le_of_ble_eq_true rfl) (Nat.le_of_ble_eq_true rfl) rfl
  refine lv_if_lt (tgt := 23) hx hb dX6_refuse_1 (by decide) (fun c_1 => ?_) (fun c_1 => ?_)
  · have c_1 : x1 < 0 := c_1
    have f_23_1 : iR x1 (-2147483648) (-1) := iR_ltL c_1 (iR_top _) (iR_c (n := 0) (a := 0) (b := 0) (by decide +kernel) (by decide +kernel)) (by decide +kernel)
    exact J_23 f0_16  H locs ls hP hD hS (lv_sub hl [] rfl)
  · have c_1 : 0 ≤ x1 := i_nlt c_1
    have f_4_1 : iR x1 0 2147483647 := iR_leR c_1 (iR_c (n := 0) (a := 0) (b := 0) (by decide +kernel) (by decide +kernel)) (iR_top _) (by decide +kernel)
    refine lv_iload_n hx hb dX6_refuse_4 rfl (lv_at hl 1 rfl) ?_
    refine lv_aload_n hx hb dX6_refuse_5 rfl (lv_at hl 0 rfl) ?_
    refine k_get (D := (dC, dI)) (ci := 6) (v := .ref a0_16) (C := RX6) (T := TX6) (N := 17) hx hb hts hinX6 hown hK hP 0 rfl rfl 16 (by decide) w_0 rfl rfl dX6_refuse_6 ?_
    refine va_alen (v := 6) hx hb hK hP 1 0 rfl rfl rfl dX6_refuse_9 ?_
    refine lv_icmp_ge (tgt := 23) hx hb dX6_refuse_10 (by decide) (fun c_10 => ?_) (fun c_10 => ?_)
    · have c_10 : 6 ≤ x1 := c_10
      have f_23_2 : iR x1 6 2147483647 := iR_leR c_10 (iR_c (n := 6) (a := 6) (b := 6) (by decide +kernel) (by decide +kernel)) f_4_1 (by decide +kernel)
      exact J_23 f0_16  H locs ls hP hD hS (lv_sub hl [] rfl)
    · have c_10 : x1 < 6 := i_nle c_10
      have f_13_2 : iR x1 0 5 := iR_ltL c_10 f_4_1 (iR_c (n := 6) (a := 6) (b := 6) (by decide +kernel) (by decide +kernel)) (by decide +kernel)
      refine lv_aload_n hx hb dX6_refuse_13 rfl (lv_at hl 0 rfl) ?_
      refine k_get (D := (dC, dI)) (ci := 6) (v := .ref a0_16) (C := RX6) (T := TX6) (N := 17) hx hb hts hinX6 hown hK hP 0 rfl rfl 16 (by decide) w_0 rfl rfl dX6_refuse_14 ?_
      refine lv_iload_n hx hb dX6_refuse_17 rfl (lv_at hl 1 rfl) ?_
      refine lv_dup2_11 hx hb dX6_refuse_18 rfl rfl ?_
      refine va_iald hx hb hK hP 1 0 rfl rfl (iR_vp f_13_2 (by decide +kernel)) dX6_refuse_19 ?_
      refine lv_iconst (v := 1) hx hb dX6_refuse_20 (by decide +kernel) ?_
      refine lv_iadd hx hb dX6_refuse_21 ?_
      refine lv_topi (fun y_21 ey_21 => ?_)
      refine s_iast (g := (upd f0_16 x1.toNatClampNeg y_21)) (ws' := [(a0, .inr (6, [.ref a0_0, .int v0_1, .ref b0_2, .ref b0_3, .ref b0_4, .ref b0_5, .ref b0_6, .ref b0_7, .ref b0_8, .null, .int v0_10, .int v0_11, .int v0_12, .ref b0_13, .ref b0_14, .ref b0_15, .ref a0_16])), (a0_16, .inl (cI, 6, .inl (upd f0_16 x1.toNatClampNeg y_21)))]) hx hb hK hP hD hS 1 0 rfl rfl (iR_vp f_13_2 (by decide +kernel)) rfl rfl dX6_refuse_22 (fun H locs hP hD hS => ?_)
      exact J_23 (upd f0_16 x1.toNatClampNeg y_21)  H locs ls hP hD hS (lv_sub hl [] rfl)
set_option maxHeartbeats 8000000 in
set_option maxRecDepth 100000 in
theorem s_X6_feed_v0 (l : Launch) (dC : Nat → ClassId) (dI : Nat → Nat → Nat) (cI cJ cZ cM : ClassId) (a0 : Nat) (x1 : Int32) (x2 : Int32) (x3 : Int32) (x4 : Int32) (x5 : Int32) (a0_0 : Nat) (f0_0 : Nat → Int32) (v0_1 : Int32) (a0_2 : Nat) (a0_3 : Nat) (a0_4 : Nat) (a0_5 : Nat) (a0_6 : Nat) (a0_7 : Nat) (a0_8 : Nat) (v0_10 : Int32) (v0_11 : Int32) (v0_12 : Int32) (a0_13 : Nat) (a0_14 : Nat) (a0_15 : Nat) (a0_16 : Nat) (f0_16 : Nat → Int32) (hv0_1 : iR v0_1 0 1600) (hv0_11 : iR v0_11 1 65535) (hv0_12 : iR v0_12 (-1) 999) (hf0_0 : aR f0_0 0 255) : k_Mi l yX6_feed wsX6_feed ({ frames := 2, cells := 0, slots := 0, locals := 62 }) (dC, dI) vwCl (tyy cI cJ cZ cM) [(a0, .inr (6, [.ref a0_0, .int v0_1, .ref a0_2, .ref a0_3, .ref a0_4, .ref a0_5, .ref a0_6, .ref a0_7, .ref a0_8, .null, .int v0_10, .int v0_11, .int v0_12, .ref a0_13, .ref a0_14, .ref a0_15, .ref a0_16])), (a0_0, .inl (cI, 1600, .inl f0_0)), (a0_16, .inl (cI, 6, .inl f0_16))] [.ref a0, .int x1, .int x2, .int x3, .int x4, .int x5] 0 0 (fun (u9 : SU) => [(a0, .inr (6, [.ref a0_0, .int (u9.1 0), .ref a0_2, .ref a0_3, .ref a0_4, .ref a0_5, .ref a0_6, .ref a0_7, .ref a0_8, .null, .int v0_10, .int v0_11, .int v0_12, .ref a0_13, .ref a0_14, .ref a0_15, .ref a0_16])), (a0_0, .inl (cI, 1600, .inl (u9.2.2.1 0))), (a0_16, .inl (cI, 6, .inl (u9.2.2.1 1)))]) (fun (r9 : Int32) (u9 : SU) => (iR r9 (-1) 1600) ∧ (iR (u9.1 0) 20 1600) ∧ (aR (u9.2.2.1 0) 0 255) ∧ (FDR f0_0 v0_1 x1 x2 x3 x4 x5 r9 (u9.1 0) (u9.2.2.1 0))) := by
  refine fun sz => k_enter (cc := cX6_feed) (maxL := 6) (ret := some (.int)) (Qc := fun A => va_Qi (fun (r9 : Int32) (u9 : SU) => (iR r9 (-1) 1600) ∧ (iR (u9.1 0) 20 1600) ∧ (aR (u9.2.2.1 0) 0 255) ∧ (FDR f0_0 v0_1 x1 x2 x3 x4 x5 r9 (u9.1 0) (u9.2.2.1 0))) (fun u => k_B (dC, dI) vwCl (tyy cI cJ cZ cM) A ((fun (u9 : SU) => [(a0, .inr (6, [.ref a0_0, .int (u9.1 0), .ref a0_2, .ref a0_3, .ref a0_4, .ref a0_5, .ref a0_6, .ref a0_7, .ref a0_8, .null, .int v0_10, .int v0_11, .int v0_12, .ref a0_13, .ref a0_14, .ref a0_15, .ref a0_16])), (a0_0, .inl (cI, 1600, .inl (u9.2.2.1 0))), (a0_16, .inl (cI, 6, .inl (u9.2.2.1 1)))]) u)) A) sz (by decide +kernel) rfl (Nat.le_of_ble_eq_true rfl) (fun p e s m args below meth c A ls H locs B hP hD hS hl => ?_)
  obtain ⟨hx, hb, hml, hown, hts, hr, hlk, hnm, hK, hA, hN, hC⟩ := id B
  have hown : s.vm.findClass RX6 = some m.cls := hown
  have hl : lv_has ls 6 [(0, .ref a0), (1, .int x1), (2, .int x2), (3, .int x3), (4, .int x4), (5, .int x5)] := hl
  have w_0 : (Cond.fieldLink RX6 92 "WishSea" "tapeLength" "I").before args s = true := hts _ (List.mem_of_getElem? (i := 1) rfl)
  have w_1 : (Cond.fieldLink RX6 9 "WishSea" "tape" "[I").before args s = true := hts _ (List.mem_of_getElem? (i := 2) rfl)
  have hinX6 : ∀ w ∈ u_ws RX6 TX6 17, w ∈ wsX6_feed := fun _ h => List.mem_cons_of_mem _ (List.mem_append_right _ h)
  refine lv_aload_n hx hb dX6_feed_0 rfl (lv_at hl 0 rfl) ?_
  refine k_get (D := (dC, dI)) (ci := 6) (v := .int v0_1) (C := RX6) (T := TX6) (N := 17) hx hb hts hinX6 hown hK hP 0 rfl rfl 1 (by decide) w_0 rfl rfl dX6_feed_1 ?_
  refine lv_bipush (v := 20) hx hb dX6_feed_4 (by decide +kernel) ?_
  refine lv_iadd hx hb dX6_feed_6 ?_
  refine lv_topi (fun y_6 ey_6 => ?_)
  have xy_6 : y_6.toInt = v0_1.toInt + 20 := i_add ey_6 hv0_1 (iR_c (n := 20) (a := 20) (b := 20) (by decide +kernel) (by decide +kernel)) (by decide +kernel)
  have f_6_1 : iR y_6 20 1620 := iR_add ey_6 hv0_1 (iR_c (n := 20) (a := 20) (b := 20) (by decide +kernel) (by decide +kernel)) (by decide +kernel)
  refine lv_aload_n hx hb dX6_feed_7 rfl (lv_at hl 0 rfl) ?_
  refine k_get (D := (dC, dI)) (ci := 6) (v := .ref a0_0) (C := RX6) (T := TX6) (N := 17) hx hb hts hinX6 hown hK hP 0 rfl rfl 0 (by decide) w_1 rfl rfl dX6_feed_8 ?_
  refine va_alen (v := 1600) hx hb hK hP 1 0 rfl rfl rfl dX6_feed_11 ?_
  refine lv_icmp_le (tgt := 21) hx hb dX6_feed_12 (by decide) (fun c_12 => ?_) (fun c_12 => ?_)
  · have c_12 : y_6 ≤ 1600 := c_12
    have f_21_2 : iR y_6 20 1600 := iR_leL c_12 f_6_1 (iR_c (n := 1600) (a := 1600) (b := 1600) (by decide +kernel) (by decide +kernel)) (by decide +kernel)
    have f_21_3 : iR v0_1 0 1580 := iR_addB ey_6 hv0_1 (iR_c (n := 20) (a := 20) (b := 20) (by decide +kernel) (by decide +kernel)) f_21_2 (by decide +kernel)
    refine lv_aload_n hx hb dX6_feed_21 rfl (lv_at hl 0 rfl) ?_
    refine lv_iload_n hx hb dX6_feed_22 rfl (lv_at hl 1 rfl) ?_
    refine k_cv (wc := [(a0, .inr (6, [.ref a0_0, .int v0_1, .ref a0_2, .ref a0_3, .ref a0_4, .ref a0_5, .ref a0_6, .ref a0_7, .ref a0_8, .null, .int v0_10, .int v0_11, .int v0_12, .ref a0_13, .ref a0_14, .ref a0_15, .ref a0_16])), (a0_0, .inl (cI, 1600, .inl f0_0))]) (wr := [(a0_16, .inl (cI, 6, .inl f0_16))]) (fun hPc hDc hFc => va_runV (As := [.int x1]) (rest := []) ⟨hx, hb, hml, hown, hts⟩ (s_X6_feedNumber_v5 l dC dI cI cJ cZ cM a0 x1 a0_0 f0_0 v0_1 a0_2 a0_3 a0_4 a0_5 a0_6 a0_7 a0_8 v0_10 v0_11 v0_12 a0_13 a0_14 a0_15 a0_16 (show iR v0_1 0 1580 from f_21_3) (iR_w f_21_3 (by decide +kernel)) hv0_11 hv0_12 hf0_0 H.size) (cwV 1 hts gX6_feed_X6_feedNumber rfl rfl rfl (by decide +kernel) ⟨(Nat.le_of_ble_eq_true rfl), (Nat.le_of_ble_eq_true rfl)⟩) (k_pV hPc hDc hK hN hC hS hFc hP (q0 := 0) (ci := 6) rfl rfl) rfl rfl hl.1 rfl (lv_room (Nat.le_of_ble_eq_true rfl)) dX6_feed_23 ⟨(Nat.le_of_ble_eq_true rfl), (Nat.le_of_ble_eq_true rfl)⟩) hP hD hS hA [0, 1] [2] rfl rfl rfl rfl (by decide) (fun _ => rfl) 0 0 rfl rfl (fun u_23 H locs hw hP hD hS => ?_)
    obtain ⟨g_23_0, g_23_1, g_23_2, g_23_3⟩ := hw
    have hP : va_P (dC, dI) vwCl [(a0_16, .inl (cI, 6, .inl f0_16)), (a0, .inr (6, [.ref a0_0, .int (u_23.1 0), .ref a0_2, .ref a0_3, .ref a0_4, .ref a0_5, .ref a0_6, .ref a0_7, .ref a0_8, .null, .int v0_10, .int v0_11, .int v0_12, .ref a0_13, .ref a0_14, .ref a0_15, .ref a0_16])), (a0_0, .inl (cI, 1600, .inl (u_23.2.2.1 0)))] H := hP
    have hD : va_D A [(a0_16, .inl (cI, 6, .inl f0_16)), (a0, .inr (6, [.ref a0_0, .int (u_23.1 0), .ref a0_2, .ref a0_3, .ref a0_4, .ref a0_5, .ref a0_6, .ref a0_7, .ref a0_8, .null, .int v0_10, .int v0_11, .int v0_12, .ref a0_13, .ref a0_14, .ref a0_15, .ref a0_16])), (a0_0, .inl (cI, 1600, .inl (u_23.2.2.1 0)))] := hD
    have g_23_2 : (u_23.1 0) = tn4 v0_1 := g_23_2
    have g_23_3 : (u_23.2.2.1 0) = tp4 f0_0 v0_1 x1 := g_23_3
    refine lv_aload_n hx hb dX6_feed_26 rfl (lv_at hl 0 rfl) ?_
    refine lv_iload_n hx hb dX6_feed_27 rfl (lv_at hl 2 rfl) ?_
    refine k_cv (wc := [(a0, .inr (6, [.ref a0_0, .int (u_23.1 0), .ref a0_2, .ref a0_3, .ref a0_4, .ref a0_5, .ref a0_6, .ref a0_7, .ref a0_8, .null, .int v0_10, .int v0_11, .int v0_12, .ref a0_13, .ref a0_14, .ref a0_15, .ref a0_16])), (a0_0, .inl (cI, 1600, .inl (u_23.2.2.1 0)))]) (wr := [(a0_16, .inl (cI, 6, .inl f0_16))]) (fun hPc hDc hFc => va_runV (As := [.int x2]) (rest := []) ⟨hx, hb, hml, hown, hts⟩ (s_X6_feedNumber_v6 l dC dI cI cJ cZ cM a0 x2 a0_0 (u_23.2.2.1 0) (u_23.1 0) a0_2 a0_3 a0_4 a0_5 a0_6 a0_7 a0_8 v0_10 v0_11 v0_12 a0_13 a0_14 a0_15 a0_16 (show iR (u_23.1 0) 4 1584 from g_23_0) (iR_w g_23_0 (by decide +kernel)) hv0_11 hv0_12 g_23_1 H.size) (cwV 1 hts gX6_feed_X6_feedNumber rfl rfl rfl (by decide +kernel) ⟨(Nat.le_of_ble_eq_true rfl), (Nat.le_of_ble_eq_true rfl)⟩) (k_pV hPc hDc hK hN hC hS hFc hP (q0 := 1) (ci := 6) rfl rfl) rfl rfl hl.1 rfl (lv_room (Nat.le_of_ble_eq_true rfl)) dX6_feed_28 ⟨(Nat.le_of_ble_eq_true rfl), (Nat.le_of_ble_eq_true rfl)⟩) hP hD hS hA [1, 2] [0] rfl rfl rfl rfl (by decide) (fun _ => rfl) 0 0 rfl rfl (fun u_28 H locs hw hP hD hS => ?_)
    obtain ⟨g_28_0, g_28_1, g_28_2, g_28_3⟩ := hw
    have hP : va_P (dC, dI) vwCl [(a0_16, .inl (cI, 6, .inl f0_16)), (a0, .inr (6, [.ref a0_0, .int (u_28.1 0), .ref a0_2, .ref a0_3, .ref a0_4, .ref a0_5, .ref a0_6, .ref a0_7, .ref a0_8, .null, .int v0_10, .int v0_11, .int v0_12, .ref a0_13, .ref a0_14, .ref a0_15, .ref a0_16])), (a0_0, .inl (cI, 1600, .inl (u_28.2.2.1 0)))] H := hP
    have hD : va_D A [(a0_16, .inl (cI, 6, .inl f0_16)), (a0, .inr (6, [.ref a0_0, .int (u_28.1 0), .ref a0_2, .ref a0_3, .ref a0_4, .ref a0_5, .ref a0_6, .ref a0_7, .ref a0_8, .null, .int v0_10, .int v0_11, .int v0_12, .ref a0_13, .ref a0_14, .ref a0_15, .ref a0_16])), (a0_0, .inl (cI, 1600, .inl (u_28.2.2.1 0)))] := hD
    have g_28_2 : (u_28.1 0) = tn4 (u_23.1 0) := g_28_2
    have g_28_3 : (u_28.2.2.1 0) = tp4 (u_23.2.2.1 0) (u_23.1 0) x2 := g_28_3
    refine lv_aload_n hx hb dX6_feed_31 rfl (lv_at hl 0 rfl) ?_
    refine lv_iload_n hx hb dX6_feed_32 rfl (lv_at hl 3 rfl) ?_
    refine k_cv (wc := [(a0, .inr (6, [.ref a0_0, .int (u_28.1 0), .ref a0_2, .ref a0_3, .ref a0_4, .ref a0_5, .ref a0_6, .ref a0_7, .ref a0_8, .null, .int v0_10, .int v0_11, .int v0_12, .ref a0_13, .ref a0_14, .ref a0_15, .ref a0_16])), (a0_0, .inl (cI, 1600, .inl (u_28.2.2.1 0)))]) (wr := [(a0_16, .inl (cI, 6, .inl f0_16))]) (fun hPc hDc hFc => va_runV (As := [.int x3]) (rest := []) ⟨hx, hb, hml, hown, hts⟩ (s_X6_feedNumber_v7 l dC dI cI cJ cZ cM a0 x3 a0_0 (u_28.2.2.1 0) (u_28.1 0) a0_2 a0_3 a0_4 a0_5 a0_6 a0_7 a0_8 v0_10 v0_11 v0_12 a0_13 a0_14 a0_15 a0_16 (show iR (u_28.1 0) 8 1588 from g_28_0) (iR_w g_28_0 (by decide +kernel)) hv0_11 hv0_12 g_28_1 H.size) (cwV 1 hts gX6_feed_X6_feedNumber rfl rfl rfl (by decide +kernel) ⟨(Nat.le_of_ble_eq_true rfl), (Nat.le_of_ble_eq_true rfl)⟩) (k_pV hPc hDc hK hN hC hS hFc hP (q0 := 1) (ci := 6) rfl rfl) rfl rfl hl.1 rfl (lv_room (Nat.le_of_ble_eq_true rfl)) dX6_feed_33 ⟨(Nat.le_of_ble_eq_true rfl), (Nat.le_of_ble_eq_true rfl)⟩) hP hD hS hA [1, 2] [0] rfl rfl rfl rfl (by decide) (fun _ => rfl) 0 0 rfl rfl (fun u_33 H locs hw hP hD hS => ?_)
    obtain ⟨g_33_0, g_33_1, g_33_2, g_33_3⟩ := hw
    have hP : va_P (dC, dI) vwCl [(a0_16, .inl (cI, 6, .inl f0_16)), (a0, .inr (6, [.ref a0_0, .int (u_33.1 0), .ref a0_2, .ref a0_3, .ref a0_4, .ref a0_5, .ref a0_6, .ref a0_7, .ref a0_8, .null, .int v0_10, .int v0_11, .int v0_12, .ref a0_13, .ref a0_14, .ref a0_15, .ref a0_16])), (a0_0, .inl (cI, 1600, .inl (u_33.2.2.1 0)))] H := hP
    have hD : va_D A [(a0_16, .inl (cI, 6, .inl f0_16)), (a0, .inr (6, [.ref a0_0, .int (u_33.1 0), .ref a0_2, .ref a0_3, .ref a0_4, .ref a0_5, .ref a0_6, .ref a0_7, .ref a0_8, .null, .int v0_10, .int v0_11, .int v0_12, .ref a0_13, .ref a0_14, .ref a0_15, .ref a0_16])), (a0_0, .inl (cI, 1600, .inl (u_33.2.2.1 0)))] := hD
    have g_33_2 : (u_33.1 0) = tn4 (u_28.1 0) := g_33_2
    have g_33_3 : (u_33.2.2.1 0) = tp4 (u_28.2.2.1 0) (u_28.1 0) x3 := g_33_3
    refine lv_aload_n hx hb dX6_feed_36 rfl (lv_at hl 0 rfl) ?_
    refine lv_iload hx hb dX6_feed_37 (lv_at hl 4 rfl) ?_
    refine k_cv (wc := [(a0, .inr (6, [.ref a0_0, .int (u_33.1 0), .ref a0_2, .ref a0_3, .ref a0_4, .ref a0_5, .ref a0_6, .ref a0_7, .ref a0_8, .null, .int v0_10, .int v0_11, .int v0_12, .ref a0_13, .ref a0_14, .ref a0_15, .ref a0_16])), (a0_0, .inl (cI, 1600, .inl (u_33.2.2.1 0)))]) (wr := [(a0_16, .inl (cI, 6, .inl f0_16))]) (fun hPc hDc hFc => va_runV (As := [.int x4]) (rest := []) ⟨hx, hb, hml, hown, hts⟩ (s_X6_feedNumber_v8 l dC dI cI cJ cZ cM a0 x4 a0_0 (u_33.2.2.1 0) (u_33.1 0) a0_2 a0_3 a0_4 a0_5 a0_6 a0_7 a0_8 v0_10 v0_11 v0_12 a0_13 a0_14 a0_15 a0_16 (show iR (u_33.1 0) 12 1592 from g_33_0) (iR_w g_33_0 (by decide +kernel)) hv0_11 hv0_12 g_33_1 H.size) (cwV 1 hts gX6_feed_X6_feedNumber rfl rfl rfl (by decide +kernel) ⟨(Nat.le_of_ble_eq_true rfl), (Nat.le_of_ble_eq_true rfl)⟩) (k_pV hPc hDc hK hN hC hS hFc hP (q0 := 1) (ci := 6) rfl rfl) rfl rfl hl.1 rfl (lv_room (Nat.le_of_ble_eq_true rfl)) dX6_feed_39 ⟨(Nat.le_of_ble_eq_true rfl), (Nat.le_of_ble_eq_true rfl)⟩) hP hD hS hA [1, 2] [0] rfl rfl rfl rfl (by decide) (fun _ => rfl) 0 0 rfl rfl (fun u_39 H locs hw hP hD hS => ?_)
    obtain ⟨g_39_0, g_39_1, g_39_2, g_39_3⟩ := hw
    have hP : va_P (dC, dI) vwCl [(a0_16, .inl (cI, 6, .inl f0_16)), (a0, .inr (6, [.ref a0_0, .int (u_39.1 0), .ref a0_2, .ref a0_3, .ref a0_4, .ref a0_5, .ref a0_6, .ref a0_7, .ref a0_8, .null, .int v0_10, .int v0_11, .int v0_12, .ref a0_13, .ref a0_14, .ref a0_15, .ref a0_16])), (a0_0, .inl (cI, 1600, .inl (u_39.2.2.1 0)))] H := hP
    have hD : va_D A [(a0_16, .inl (cI, 6, .inl f0_16)), (a0, .inr (6, [.ref a0_0, .int (u_39.1 0), .ref a0_2, .ref a0_3, .ref a0_4, .ref a0_5, .ref a0_6, .ref a0_7, .ref a0_8, .null, .int v0_10, .int v0_11, .int v0_12, .ref a0_13, .ref a0_14, .ref a0_15, .ref a0_16])), (a0_0, .inl (cI, 1600, .inl (u_39.2.2.1 0)))] := hD
    have g_39_2 : (u_39.1 0) = tn4 (u_33.1 0) := g_39_2
    have g_39_3 : (u_39.2.2.1 0) = tp4 (u_33.2.2.1 0) (u_33.1 0) x4 := g_39_3
    refine lv_aload_n hx hb dX6_feed_42 rfl (lv_at hl 0 rfl) ?_
    refine lv_iload hx hb dX6_feed_43 (lv_at hl 5 rfl) ?_
    refine k_cv (wc := [(a0, .inr (6, [.ref a0_0, .int (u_39.1 0), .ref a0_2, .ref a0_3, .ref a0_4, .ref a0_5, .ref a0_6, .ref a0_7, .ref a0_8, .null, .int v0_10, .int v0_11, .int v0_12, .ref a0_13, .ref a0_14, .ref a0_15, .ref a0_16])), (a0_0, .inl (cI, 1600, .inl (u_39.2.2.1 0)))]) (wr := [(a0_16, .inl (cI, 6, .inl f0_16))]) (fun hPc hDc hFc => va_runV (As := [.int x5]) (rest := []) ⟨hx, hb, hml, hown, hts⟩ (s_X6_feedNumber_v9 l dC dI cI cJ cZ cM a0 x5 a0_0 (u_39.2.2.1 0) (u_39.1 0) a0_2 a0_3 a0_4 a0_5 a0_6 a0_7 a0_8 v0_10 v0_11 v0_12 a0_13 a0_14 a0_15 a0_16 (show iR (u_39.1 0) 16 1596 from g_39_0) (iR_w g_39_0 (by decide +kernel)) hv0_11 hv0_12 g_39_1 H.size) (cwV 1 hts gX6_feed_X6_feedNumber rfl rfl rfl (by decide +kernel) ⟨(Nat.le_of_ble_eq_true rfl), (Nat.le_of_ble_eq_true rfl)⟩) (k_pV hPc hDc hK hN hC hS hFc hP (q0 := 1) (ci := 6) rfl rfl) rfl rfl hl.1 rfl (lv_room (Nat.le_of_ble_eq_true rfl)) dX6_feed_45 ⟨(Nat.le_of_ble_eq_true rfl), (Nat.le_of_ble_eq_true rfl)⟩) hP hD hS hA [1, 2] [0] rfl rfl rfl rfl (by decide) (fun _ => rfl) 0 0 rfl rfl (fun u_45 H locs hw hP hD hS => ?_)
    obtain ⟨g_45_0, g_45_1, g_45_2, g_45_3⟩ := hw
    have hP : va_P (dC, dI) vwCl [(a0_16, .inl (cI, 6, .inl f0_16)), (a0, .inr (6, [.ref a0_0, .int (u_45.1 0), .ref a0_2, .ref a0_3, .ref a0_4, .ref a0_5, .ref a0_6, .ref a0_7, .ref a0_8, .null, .int v0_10, .int v0_11, .int v0_12, .ref a0_13, .ref a0_14, .ref a0_15, .ref a0_16])), (a0_0, .inl (cI, 1600, .inl (u_45.2.2.1 0)))] H := hP
    have hD : va_D A [(a0_16, .inl (cI, 6, .inl f0_16)), (a0, .inr (6, [.ref a0_0, .int (u_45.1 0), .ref a0_2, .ref a0_3, .ref a0_4, .ref a0_5, .ref a0_6, .ref a0_7, .ref a0_8, .null, .int v0_10, .int v0_11, .int v0_12, .ref a0_13, .ref a0_14, .ref a0_15, .ref a0_16])), (a0_0, .inl (cI, 1600, .inl (u_45.2.2.1 0)))] := hD
    have g_45_2 : (u_45.1 0) = tn4 (u_39.1 0) := g_45_2
    have g_45_3 : (u_45.2.2.1 0) = tp4 (u_39.2.2.1 0) (u_39.1 0) x5 := g_45_3
    refine lv_aload_n hx hb dX6_feed_48 rfl (lv_at hl 0 rfl) ?_
    refine k_get (D := (dC, dI)) (ci := 6) (v := .int (u_45.1 0)) (C := RX6) (T := TX6) (N := 17) hx hb hts hinX6 hown hK hP 1 rfl rfl 1 (by decide) w_0 rfl rfl dX6_feed_49 ?_
    exact k_ri B hP hD hS dX6_feed_52 ((fun k9 => match k9 with | 0 => (u_45.1 0) | _ => 0), (fun _ => 0), (fun k9 => match k9 with | 0 => (u_45.2.2.1 0) | 1 => f0_16 | _ => (fun _ => 0)), (fun _ => (fun _ => 0)), (fun _ => 0)) [1, 2, 0] rfl rfl rfl (Nat.le_of_ble_eq_true rfl) (Nat.le_of_ble_eq_true rfl) ⟨(show iR (u_45.1 0) (-1) 1600 from (iR_w g_45_0 (by decide +kernel))), (show iR (u_45.1 0) 20 1600 from g_45_0), (show aR (u_45.2.2.1 0) 0 255 from g_45_1), (show FDR f0_0 v0_1 x1 x2 x3 x4 x5 (u_45.1 0) (u_45.1 0) (u_45.2.2.1 0) from (Or.inr ⟨(by have q0 : 20 ≤ y_6.toInt ∧ y_6.toInt ≤ 1600 := f_21_2; have q1 : 0 ≤ v0_1.toInt ∧ v0_1.toInt ≤ 1580 := f_21_3; have r1 : y_6.toInt ≤ 1600 := i_ti_le rfl (by decide) c_12; have x9 := xy_6; show v0_1.toInt ≤ 1580; omega), (by rw [g_45_2, g_39_2, g_33_2, g_28_2, g_23_2]; rfl), (by rw [g_45_2, g_39_2, g_33_2, g_28_2, g_23_2]; rfl), (by rw [g_45_3, g_39_3, g_39_2, g_33_3, g_33_2, g_28_3, g_28_2, g_23_3, g_23_2]; rfl)⟩))⟩
  · have c_12 : 1600 < y_6 := i_nle c_12
    have f_15_2 : iR y_6 1601 1620 := iR_ltR c_12 (iR_c (n := 1600) (a := 1600) (b := 1600) (by decide +kernel) (by decide +kernel)) f_6_1 (by decide +kernel)
    have f_15_3 : iR v0_1 1581 1600 := iR_addB ey_6 hv0_1 (iR_c (n := 20) (a := 20) (b := 20) (by decide +kernel) (by decide +kernel)) f_15_2 (by decide +kernel)
    refine lv_aload_n hx hb dX6_feed_15 rfl (lv_at hl 0 rfl) ?_
    refine lv_iconst (v := 0) hx hb dX6_feed_16 (by decide +kernel) ?_
    refine k_ci (wc := [(a0, .inr (6, [.ref a0_0, .int v0_1, .ref a0_2, .ref a0_3, .ref a0_4, .ref a0_5, .ref a0_6, .ref a0_7, .ref a0_8, .null, .int v0_10, .int v0_11, .int v0_12, .ref a0_13, .ref a0_14, .ref a0_15, .ref a0_16])), (a0_16, .inl (cI, 6, .inl f0_16))]) (wr := [(a0_0, .inl (cI, 1600, .inl f0_0))]) (fun hPc hDc hFc => va_runV (As := [.int 0]) (rest := []) ⟨hx, hb, hml, hown, hts⟩ (s_X6_refuse_v1 l dC dI cI cJ cZ cM a0 0 a0_0 v0_1 a0_2 a0_3 a0_4 a0_5 a0_6 a0_7 a0_8 v0_10 v0_11 v0_12 a0_13 a0_14 a0_15 a0_16 f0_16 (iR_w f_15_3 (by decide +kernel)) hv0_11 hv0_12 H.size) (cwV 1 hts gX6_feed_X6_refuse rfl rfl rfl (by decide +kernel) ⟨(Nat.le_of_ble_eq_true rfl), (Nat.le_of_ble_eq_true rfl)⟩) (k_pV hPc hDc hK hN hC hS hFc hP (q0 := 0) (ci := 6) rfl rfl) rfl rfl hl.1 rfl (lv_room (Nat.le_of_ble_eq_true rfl)) dX6_feed_17 ⟨(Nat.le_of_ble_eq_true rfl), (Nat.le_of_ble_eq_true rfl)⟩) hP hD hS hA [0, 2] [1] rfl rfl rfl rfl (by decide) (fun _ => rfl) 0 0 rfl rfl (fun r_17 u_17 H locs hw hP hD hS => ?_)
    have g_17_0 := hw
    obtain rfl : (-1) = r_17 := g_17_0.symm
    have hP : va_P (dC, dI) vwCl [(a0_0, .inl (cI, 1600, .inl f0_0)), (a0, .inr (6, [.ref a0_0, .int v0_1, .ref a0_2, .ref a0_3, .ref a0_4, .ref a0_5, .ref a0_6, .ref a0_7, .ref a0_8, .null, .int v0_10, .int v0_11, .int v0_12, .ref a0_13, .ref a0_14, .ref a0_15, .ref a0_16])), (a0_16, .inl (cI, 6, .inl (u_17.2.2.1 0)))] H := hP
    have hD : va_D A [(a0_0, .inl (cI, 1600, .inl f0_0)), (a0, .inr (6, [.ref a0_0, .int v0_1, .ref a0_2, .ref a0_3, .ref a0_4, .ref a0_5, .ref a0_6, .ref a0_7, .ref a0_8, .null, .int v0_10, .int v0_11, .int v0_12, .ref a0_13, .ref a0_14, .ref a0_15, .ref a0_16])), (a0_16, .inl (cI, 6, .inl (u_17.2.2.1 0)))] := hD
    exact k_ri B hP hD hS dX6_feed_20 ((fun k9 => match k9 with | 0 => v0_1 | _ => 0), (fun _ => 0), (fun k9 => match k9 with | 0 => f0_0 | 1 => (u_17.2.2.1 0) | _ => (fun _ => 0)), (fun _ => (fun _ => 0)), (fun _ => 0)) [1, 0, 2] rfl rfl rfl (Nat.le_of_ble_eq_true rfl) (Nat.le_of_ble_eq_true rfl) ⟨(show iR (-1) (-1) 1600 from (iR_c (n := (-1)) (a := (-1)) (b := 1600) (by decide +kernel) (by decide +kernel))), (show iR v0_1 20 1600 from (iR_w f_15_3 (by decide +kernel))), (show aR f0_0 0 255 from hf0_0), (show FDR f0_0 v0_1 x1 x2 x3 x4 x5 (-1) v0_1 f0_0 from (Or.inl ⟨(by have q0 : 1601 ≤ y_6.toInt ∧ y_6.toInt ≤ 1620 := f_15_2; have q1 : 1581 ≤ v0_1.toInt ∧ v0_1.toInt ≤ 1600 := f_15_3; have r1 : 1600 < y_6.toInt := i_ti_lt (by decide) rfl c_12; have x9 := xy_6; show 1580 < v0_1.toInt; omega), rfl, rfl, rfl⟩))⟩
set_option maxHeartbeats 8000000 in
set_option maxRecDepth 100000 in
theorem s_X6_refuse_v2 (l : Launch) (dC : Nat → ClassId) (dI : Nat → Nat → Nat) (cI cJ cZ cM : ClassId) (a0 : Nat) (x1 : Int32) (b0_0 : Nat) (v0_1 : Int32) (b0_2 : Nat) (b0_3 : Nat) (b0_4 : Nat) (b0_5 : Nat) (b0_6 : Nat) (b0_7 : Nat) (b0_8 : Nat) (v0_10 : Int32) (v0_11 : Int32) (v0_12 : Int32) (b0_13 : Nat) (b0_14 : Nat) (b0_15 : Nat) (a0_16 : Nat) (f0_16 : Nat → Int32) (hv0_1 : iR v0_1 0 1600) (hv0_11 : iR v0_11 1 65535) (hv0_12 : iR v0_12 (-1) 999) : k_Mi l yX6_refuse wsX6_refuse ({ frames := 1, cells := 0, slots := 0, locals := 40 }) (dC, dI) vwCl (tyy cI cJ cZ cM) [(a0, .inr (6, [.ref b0_0, .int v0_1, .ref b0_2, .ref b0_3, .ref b0_4, .ref b0_5, .ref b0_6, .ref b0_7, .ref b0_8, .null, .int v0_10, .int v0_11, .int v0_12, .ref b0_13, .ref b0_14, .ref b0_15, .ref a0_16])), (a0_16, .inl (cI, 6, .inl f0_16))] [.ref a0, .int x1] 0 0 (fun (u9 : SU) => [(a0, .inr (6, [.ref b0_0, .int v0_1, .ref b0_2, .ref b0_3, .ref b0_4, .ref b0_5, .ref b0_6, .ref b0_7, .ref b0_8, .null, .int v0_10, .int v0_11, .int v0_12, .ref b0_13, .ref b0_14, .ref b0_15, .ref a0_16])), (a0_16, .inl (cI, 6, .inl (u9.2.2.1 0)))]) (fun (r9 : Int32) (u9 : SU) => (r9 = (-1))) := by
  refine fun sz => k_enter (cc := cX6_refuse) (maxL := 2) (ret := some (.int)) (Qc := fun A => va_Qi (fun (r9 : Int32) (u9 : SU) => (r9 = (-1))) (fun u => k_B (dC, dI) vwCl (tyy cI cJ cZ cM) A ((fun (u9 : SU) => [(a0, .inr (6, [.ref b0_0, .int v0_1, .ref b0_2, .ref b0_3, .ref b0_4, .ref b0_5, .ref b0_6, .ref b0_7, .ref b0_8, .null, .int v0_10, .int v0_11, .int v0_12, .ref b0_13, .ref b0_14, .ref b0_15, .ref a0_16])), (a0_16, .inl (cI, 6, .inl (u9.2.2.1 0)))]) u)) A) sz (by decide +kernel) rfl (Nat.le_of_ble_eq_true rfl) (fun p e s m args below meth c A ls H locs B hP hD hS hl => ?_)
  obtain ⟨hx, hb, hml, hown, hts, hr, hlk, hnm, hK, hA, hN, hC⟩ := id B
  have hown : s.vm.findClass RX6 = some m.cls := hown
  have hl : lv_has ls 2 [(0, .ref a0), (1, .int x1)] := hl
  have w_0 : (Cond.fieldLink RX6 78 "WishSea" "refused" "[I").before args s = true := hts _ (List.mem_of_getElem? (i := 1) rfl)
  have hinX6 : ∀ w ∈ u_ws RX6 TX6 17, w ∈ wsX6_refuse := fun _ h => List.mem_cons_of_mem _ (List.mem_append_right _ h)
  refine lv_iload_n hx hb dX6_refuse_0 rfl (lv_at hl 1 rfl) ?_
  have J_23 : ∀ (j23_A1 : Nat → Int32)  (H : Heap) (locs : List Loc) (ls : Array Slot), va_P (dC, dI) vwCl [(a0, .inr (6, [.ref b0_0, .int v0_1, .ref b0_2, .ref b0_3, .ref b0_4, .ref b0_5, .ref b0_6, .ref b0_7, .ref b0_8, .null, .int v0_10, .int v0_11, .int v0_12, .ref b0_13, .ref b0_14, .ref b0_15, .ref a0_16])), (a0_16, .inl (cI, 6, .inl j23_A1))] H → va_D A [(a0, .inr (6, [.ref b0_0, .int v0_1, .ref b0_2, .ref b0_3, .ref b0_4, .ref b0_5, .ref b0_6, .ref b0_7, .ref b0_8, .null, .int v0_10, .int v0_11, .int v0_12, .ref b0_13, .ref b0_14, .ref b0_15, .ref a0_16])), (a0_16, .inl (cI, 6, .inl j23_A1))] → va_S A s.heap H locs → lv_has ls 2 [] → W p l e ({ frames := 1, cells := 0, slots := 0, locals := 40 }) s m args below meth c H locs 0 0 (MQ below (va_Qi (fun (r9 : Int32) (u9 : SU) => (r9 = (-1))) (fun u => k_B (dC, dI) vwCl (tyy cI cJ cZ cM) A ((fun (u9 : SU) => [(a0, .inr (6, [.ref b0_0, .int v0_1, .ref b0_2, .ref b0_3, .ref b0_4, .ref b0_5, .ref b0_6, .ref b0_7, .ref b0_8, .null, .int v0_10, .int v0_11, .int v0_12, .ref b0_13, .ref b0_14, .ref b0_15, .ref a0_16])), (a0_16, .inl (cI, 6, .inl (u9.2.2.1 0)))]) u)) A) args s 0 0 A) (F0 m 23 ls []) := by
    intro j23_A1  H locs ls hP hD hS hl
    refine lv_iconst (v := (-1)) hx hb dX6_refuse_23 (by decide +kernel) ?_
    exact k_ri B hP hD hS dX6_refuse_24 ((fun _ => 0), (fun _ => 0), (fun k9 => match k9 with | 0 => j23_A1 | _ => (fun _ => 0)), (fun _ => (fun _ => 0)), (fun _ => 0)) [0, 1] rfl rfl rfl (Nat.le_of_ble_eq_true rfl) (Nat.le_of_ble_eq_true rfl) rfl
  refine lv_if_lt (tgt := 23) hx hb dX6_refuse_1 (by decide) (fun c_1 => ?_) (fun c_1 => ?_)
  · have c_1 : x1 < 0 := c_1
    have f_23_1 : iR x1 (-2147483648) (-1) := iR_ltL c_1 (iR_top _) (iR_c (n := 0) (a := 0) (b := 0) (by decide +kernel) (by decide +kernel)) (by decide +kernel)
    exact J_23 f0_16  H locs ls hP hD hS (lv_sub hl [] rfl)
  · have c_1 : 0 ≤ x1 := i_nlt c_1
    have f_4_1 : iR x1 0 2147483647 := iR_leR c_1 (iR_c (n := 0) (a := 0) (b := 0) (by decide +kernel) (by decide +kernel)) (iR_top _) (by decide +kernel)
    refine lv_iload_n hx hb dX6_refuse_4 rfl (lv_at hl 1 rfl) ?_
    refine lv_aload_n hx hb dX6_refuse_5 rfl (lv_at hl 0 rfl) ?_
    refine k_get (D := (dC, dI)) (ci := 6) (v := .ref a0_16) (C := RX6) (T := TX6) (N := 17) hx hb hts hinX6 hown hK hP 0 rfl rfl 16 (by decide) w_0 rfl rfl dX6_refuse_6 ?_
    refine va_alen (v := 6) hx hb hK hP 1 0 rfl rfl rfl dX6_refuse_9 ?_
    refine lv_icmp_ge (tgt := 23) hx hb dX6_refuse_10 (by decide) (fun c_10 => ?_) (fun c_10 => ?_)
    · have c_10 : 6 ≤ x1 := c_10
      have f_23_2 : iR x1 6 2147483647 := iR_leR c_10 (iR_c (n := 6) (a := 6) (b := 6) (by decide +kernel) (by decide +kernel)) f_4_1 (by decide +kernel)
      exact J_23 f0_16  H locs ls hP hD hS (lv_sub hl [] rfl)
    · have c_10 : x1 < 6 := i_nle c_10
      have f_13_2 : iR x1 0 5 := iR_ltL c_10 f_4_1 (iR_c (n := 6) (a := 6) (b := 6) (by decide +kernel) (by decide +kernel)) (by decide +kernel)
      refine lv_aload_n hx hb dX6_refuse_13 rfl (lv_at hl 0 rfl) ?_
      refine k_get (D := (dC, dI)) (ci := 6) (v := .ref a0_16) (C := RX6) (T := TX6) (N := 17) hx hb hts hinX6 hown hK hP 0 rfl rfl 16 (by decide) w_0 rfl rfl dX6_refuse_14 ?_
      refine lv_iload_n hx hb dX6_refuse_17 rfl (lv_at hl 1 rfl) ?_
      refine lv_dup2_11 hx hb dX6_refuse_18 rfl rfl ?_
      refine va_iald hx hb hK hP 1 0 rfl rfl (iR_vp f_13_2 (by decide +kernel)) dX6_refuse_19 ?_
      refine lv_iconst (v := 1) hx hb dX6_refuse_20 (by decide +kernel) ?_
      refine lv_iadd hx hb dX6_refuse_21 ?_
      refine lv_topi (fun y_21 ey_21 => ?_)
      refine s_iast (g := (upd f0_16 x1.toNatClampNeg y_21)) (ws' := [(a0, .inr (6, [.ref b0_0, .int v0_1, .ref b0_2, .ref b0_3, .ref b0_4, .ref b0_5, .ref b0_6, .ref b0_7, .ref b0_8, .null, .int v0_10, .int v0_11, .int v0_12, .ref b0_13, .ref b0_14, .ref b0_15, .ref a0_16])), (a0_16, .inl (cI, 6, .inl (upd f0_16 x1.toNatClampNeg y_21)))]) hx hb hK hP hD hS 1 0 rfl rfl (iR_vp f_13_2 (by decide +kernel)) rfl rfl dX6_refuse_22 (fun H locs hP hD hS => ?_)
      exact J_23 (upd f0_16 x1.toNatClampNeg y_21)  H locs ls hP hD hS (lv_sub hl [] rfl)
set_option maxHeartbeats 8000000 in
set_option maxRecDepth 100000 in
theorem s_X6_end_v0 (l : Launch) (dC : Nat → ClassId) (dI : Nat → Nat → Nat) (cI cJ cZ cM : ClassId) (a0 : Nat) (x1 : Int32) (a0_0 : Nat) (v0_1 : Int32) (a0_2 : Nat) (a0_3 : Nat) (a0_4 : Nat) (a0_5 : Nat) (a0_6 : Nat) (a0_7 : Nat) (a0_8 : Nat) (v0_10 : Int32) (v0_11 : Int32) (v0_12 : Int32) (a0_13 : Nat) (a0_14 : Nat) (a0_15 : Nat) (a0_16 : Nat) (f0_16 : Nat → Int32) (hv0_1 : iR v0_1 0 1600) (hv0_11 : iR v0_11 1 65535) (hv0_12 : iR v0_12 (-1) 999) : k_Mi l yX6_end wsX6_end ({ frames := 2, cells := 0, slots := 0, locals := 61 }) (dC, dI) vwCl (tyy cI cJ cZ cM) [(a0, .inr (6, [.ref a0_0, .int v0_1, .ref a0_2, .ref a0_3, .ref a0_4, .ref a0_5, .ref a0_6, .ref a0_7, .ref a0_8, .null, .int v0_10, .int v0_11, .int v0_12, .ref a0_13, .ref a0_14, .ref a0_15, .ref a0_16])), (a0_16, .inl (cI, 6, .inl f0_16))] [.ref a0, .int x1] 0 0 (fun (u9 : SU) => [(a0, .inr (6, [.ref a0_0, .int (u9.1 0), .ref a0_2, .ref a0_3, .ref a0_4, .ref a0_5, .ref a0_6, .ref a0_7, .ref a0_8, .null, .int v0_10, .int v0_11, .int v0_12, .ref a0_13, .ref a0_14, .ref a0_15, .ref a0_16])), (a0_16, .inl (cI, 6, .inl (u9.2.2.1 0)))]) (fun (r9 : Int32) (u9 : SU) => (iR r9 0 1) ∧ (iR (u9.1 0) 0 1600) ∧ (EDR v0_1 x1 r9 (u9.1 0))) := by
  refine fun sz => k_enter (cc := cX6_end) (maxL := 2) (ret := some (.boolean)) (Qc := fun A => va_Qi (fun (r9 : Int32) (u9 : SU) => (iR r9 0 1) ∧ (iR (u9.1 0) 0 1600) ∧ (EDR v0_1 x1 r9 (u9.1 0))) (fun u => k_B (dC, dI) vwCl (tyy cI cJ cZ cM) A ((fun (u9 : SU) => [(a0, .inr (6, [.ref a0_0, .int (u9.1 0), .ref a0_2, .ref a0_3, .ref a0_4, .ref a0_5, .ref a0_6, .ref a0_7, .ref a0_8, .null, .int v0_10, .int v0_11, .int v0_12, .ref a0_13, .ref a0_14, .ref a0_15, .ref a0_16])), (a0_16, .inl (cI, 6, .inl (u9.2.2.1 0)))]) u)) A) sz (by decide +kernel) rfl (Nat.le_of_ble_eq_true rfl) (fun p e s m args below meth c A ls H locs B hP hD hS hl => ?_)
  obtain ⟨hx, hb, hml, hown, hts, hr, hlk, hnm, hK, hA, hN, hC⟩ := id B
  have hown : s.vm.findClass RX6 = some m.cls := hown
  have hl : lv_has ls 2 [(0, .ref a0), (1, .int x1)] := hl
  have w_0 : (Cond.fieldLink RX6 92 "WishSea" "tapeLength" "I").before args s = true := hts _ (List.mem_of_getElem? (i := 1) rfl)
  have hinX6 : ∀ w ∈ u_ws RX6 TX6 17, w ∈ wsX6_end := fun _ h => List.mem_cons_of_mem _ (List.mem_append_right _ h)
  refine lv_iload_n hx hb dX6_end_0 rfl (lv_at hl 1 rfl) ?_
  refine lv_if_lt (tgt := 12) hx hb dX6_end_1 (by decide) (fun c_1 => ?_) (fun c_1 => ?_)
  · have c_1 : x1 < 0 := c_1
    have f_12_1 : iR x1 (-2147483648) (-1) := iR_ltL c_1 (iR_top _) (iR_c (n := 0) (a := 0) (b := 0) (by decide +kernel) (by decide +kernel)) (by decide +kernel)
    refine lv_aload_n hx hb dX6_end_12 rfl (lv_at hl 0 rfl) ?_
    refine lv_iconst (v := 0) hx hb dX6_end_13 (by decide +kernel) ?_
    refine k_ci (wc := [(a0, .inr (6, [.ref a0_0, .int v0_1, .ref a0_2, .ref a0_3, .ref a0_4, .ref a0_5, .ref a0_6, .ref a0_7, .ref a0_8, .null, .int v0_10, .int v0_11, .int v0_12, .ref a0_13, .ref a0_14, .ref a0_15, .ref a0_16])), (a0_16, .inl (cI, 6, .inl f0_16))]) (wr := []) (fun hPc hDc hFc => va_runV (As := [.int 0]) (rest := []) ⟨hx, hb, hml, hown, hts⟩ (s_X6_refuse_v2 l dC dI cI cJ cZ cM a0 0 a0_0 v0_1 a0_2 a0_3 a0_4 a0_5 a0_6 a0_7 a0_8 v0_10 v0_11 v0_12 a0_13 a0_14 a0_15 a0_16 f0_16 hv0_1 hv0_11 hv0_12 H.size) (cwV 1 hts gX6_end_X6_refuse rfl rfl rfl (by decide +kernel) ⟨(Nat.le_of_ble_eq_true rfl), (Nat.le_of_ble_eq_true rfl)⟩) (k_pV hPc hDc hK hN hC hS hFc hP (q0 := 0) (ci := 6) rfl rfl) rfl rfl hl.1 rfl (lv_room (Nat.le_of_ble_eq_true rfl)) dX6_end_14 ⟨(Nat.le_of_ble_eq_true rfl), (Nat.le_of_ble_eq_true rfl)⟩) hP hD hS hA [0, 1] [] rfl rfl rfl rfl (by decide) (fun _ => rfl) 0 0 rfl rfl (fun r_14p1 u_14p1 H locs hw hP hD hS => ?_)
    have g_14p1_0 := hw
    obtain rfl : (-1) = r_14p1 := g_14p1_0.symm
    have hP : va_P (dC, dI) vwCl [(a0, .inr (6, [.ref a0_0, .int v0_1, .ref a0_2, .ref a0_3, .ref a0_4, .ref a0_5, .ref a0_6, .ref a0_7, .ref a0_8, .null, .int v0_10, .int v0_11, .int v0_12, .ref a0_13, .ref a0_14, .ref a0_15, .ref a0_16])), (a0_16, .inl (cI, 6, .inl (u_14p1.2.2.1 0)))] H := hP
    have hD : va_D A [(a0, .inr (6, [.ref a0_0, .int v0_1, .ref a0_2, .ref a0_3, .ref a0_4, .ref a0_5, .ref a0_6, .ref a0_7, .ref a0_8, .null, .int v0_10, .int v0_11, .int v0_12, .ref a0_13, .ref a0_14, .ref a0_15, .ref a0_16])), (a0_16, .inl (cI, 6, .inl (u_14p1.2.2.1 0)))] := hD
    refine lv_pop hx hb dX6_end_17 rfl ?_
    refine lv_iconst (v := 0) hx hb dX6_end_18 (by decide +kernel) ?_
    exact k_ri B hP hD hS dX6_end_19 ((fun k9 => match k9 with | 0 => v0_1 | _ => 0), (fun _ => 0), (fun k9 => match k9 with | 0 => (u_14p1.2.2.1 0) | _ => (fun _ => 0)), (fun _ => (fun _ => 0)), (fun _ => 0)) [0, 1] rfl rfl rfl (Nat.le_of_ble_eq_true rfl) (Nat.le_of_ble_eq_true rfl) ⟨(show iR 0 0 1 from (iR_c (n := 0) (a := 0) (b := 1) (by decide +kernel) (by decide +kernel))), (show iR v0_1 0 1600 from hv0_1), (show EDR v0_1 x1 0 v0_1 from (Or.inl ⟨(by have q0 : (-2147483648) ≤ x1.toInt ∧ x1.toInt ≤ (-1) := f_12_1; have q1 : 0 ≤ v0_1.toInt ∧ v0_1.toInt ≤ 1600 := hv0_1; have r1 : x1.toInt < 0 := i_ti_lt rfl (by decide) c_1; show x1.toInt < 0 ∨ v0_1.toInt < x1.toInt; omega), rfl, rfl⟩))⟩
  · have c_1 : 0 ≤ x1 := i_nlt c_1
    have f_4_1 : iR x1 0 2147483647 := iR_leR c_1 (iR_c (n := 0) (a := 0) (b := 0) (by decide +kernel) (by decide +kernel)) (iR_top _) (by decide +kernel)
    refine lv_iload_n hx hb dX6_end_4 rfl (lv_at hl 1 rfl) ?_
    refine lv_aload_n hx hb dX6_end_5 rfl (lv_at hl 0 rfl) ?_
    refine k_get (D := (dC, dI)) (ci := 6) (v := .int v0_1) (C := RX6) (T := TX6) (N := 17) hx hb hts hinX6 hown hK hP 0 rfl rfl 1 (by decide) w_0 rfl rfl dX6_end_6 ?_
    refine lv_icmp_le (tgt := 20) hx hb dX6_end_9 (by decide) (fun c_9 => ?_) (fun c_9 => ?_)
    · have c_9 : x1 ≤ v0_1 := c_9
      have f_20_2 : iR x1 0 1600 := iR_leL c_9 f_4_1 hv0_1 (by decide +kernel)
      refine lv_aload_n hx hb dX6_end_20 rfl (lv_at hl 0 rfl) ?_
      refine lv_iload_n hx hb dX6_end_21 rfl (lv_at hl 1 rfl) ?_
      refine k_put (D := (dC, dI)) (ci := 6) (v := .int x1) (C := RX6) (T := TX6) (N := 17) (ws' := [(a0, .inr (6, [.ref a0_0, .int x1, .ref a0_2, .ref a0_3, .ref a0_4, .ref a0_5, .ref a0_6, .ref a0_7, .ref a0_8, .null, .int v0_10, .int v0_11, .int v0_12, .ref a0_13, .ref a0_14, .ref a0_15, .ref a0_16])), (a0_16, .inl (cI, 6, .inl f0_16))]) hx hb hts hinX6 tyX6 tyX6_ok nmX6 hown hK hP hD hS 0 rfl rfl 1 (by decide) w_0 rfl rfl rfl rfl (Nat.le_of_ble_eq_true rfl) rfl dX6_end_22 (fun H locs hP hD hS => ?_)
      refine lv_iconst (v := 1) hx hb dX6_end_25 (by decide +kernel) ?_
      exact k_ri B hP hD hS dX6_end_26 ((fun k9 => match k9 with | 0 => x1 | _ => 0), (fun _ => 0), (fun k9 => match k9 with | 0 => f0_16 | _ => (fun _ => 0)), (fun _ => (fun _ => 0)), (fun _ => 0)) [0, 1] rfl rfl rfl (Nat.le_of_ble_eq_true rfl) (Nat.le_of_ble_eq_true rfl) ⟨(show iR 1 0 1 from (iR_c (n := 1) (a := 0) (b := 1) (by decide +kernel) (by decide +kernel))), (show iR x1 0 1600 from f_20_2), (show EDR v0_1 x1 1 x1 from (Or.inr ⟨(by have q0 : 0 ≤ x1.toInt ∧ x1.toInt ≤ 1600 := f_20_2; have q1 : 0 ≤ v0_1.toInt ∧ v0_1.toInt ≤ 1600 := hv0_1; have r1 : 0 ≤ x1.toInt := i_ti_le (by decide) rfl c_1; have r2 : x1.toInt ≤ v0_1.toInt := i_ti_le rfl rfl c_9; show 0 ≤ x1.toInt; omega), (by have q0 : 0 ≤ x1.toInt ∧ x1.toInt ≤ 1600 := f_20_2; have q1 : 0 ≤ v0_1.toInt ∧ v0_1.toInt ≤ 1600 := hv0_1; have r1 : 0 ≤ x1.toInt := i_ti_le (by decide) rfl c_1; have r2 : x1.toInt ≤ v0_1.toInt := i_ti_le rfl rfl c_9; show x1.toInt ≤ v0_1.toInt; omega), rfl, rfl⟩))⟩
    · have c_9 : v0_1 < x1 := i_nle c_9
      have f_12_2 : iR x1 1 2147483647 := iR_ltR c_9 hv0_1 f_4_1 (by decide +kernel)
      refine lv_aload_n hx hb dX6_end_12 rfl (lv_at hl 0 rfl) ?_
      refine lv_iconst (v := 0) hx hb dX6_end_13 (by decide +kernel) ?_
      refine k_ci (wc := [(a0, .inr (6, [.ref a0_0, .int v0_1, .ref a0_2, .ref a0_3, .ref a0_4, .ref a0_5, .ref a0_6, .ref a0_7, .ref a0_8, .null, .int v0_10, .int v0_11, .int v0_12, .ref a0_13, .ref a0_14, .ref a0_15, .ref a0_16])), (a0_16, .inl (cI, 6, .inl f0_16))]) (wr := []) (fun hPc hDc hFc => va_runV (As := [.int 0]) (rest := []) ⟨hx, hb, hml, hown, hts⟩ (s_X6_refuse_v2 l dC dI cI cJ cZ cM a0 0 a0_0 v0_1 a0_2 a0_3 a0_4 a0_5 a0_6 a0_7 a0_8 v0_10 v0_11 v0_12 a0_13 a0_14 a0_15 a0_16 f0_16 hv0_1 hv0_11 hv0_12 H.size) (cwV 1 hts gX6_end_X6_refuse rfl rfl rfl (by decide +kernel) ⟨(Nat.le_of_ble_eq_true rfl), (Nat.le_of_ble_eq_true rfl)⟩) (k_pV hPc hDc hK hN hC hS hFc hP (q0 := 0) (ci := 6) rfl rfl) rfl rfl hl.1 rfl (lv_room (Nat.le_of_ble_eq_true rfl)) dX6_end_14 ⟨(Nat.le_of_ble_eq_true rfl), (Nat.le_of_ble_eq_true rfl)⟩) hP hD hS hA [0, 1] [] rfl rfl rfl rfl (by decide) (fun _ => rfl) 0 0 rfl rfl (fun r_14p9 u_14p9 H locs hw hP hD hS => ?_)
      have g_14p9_0 := hw
      obtain rfl : (-1) = r_14p9 := g_14p9_0.symm
      have hP : va_P (dC, dI) vwCl [(a0, .inr (6, [.ref a0_0, .int v0_1, .ref a0_2, .ref a0_3, .ref a0_4, .ref a0_5, .ref a0_6, .ref a0_7, .ref a0_8, .null, .int v0_10, .int v0_11, .int v0_12, .ref a0_13, .ref a0_14, .ref a0_15, .ref a0_16])), (a0_16, .inl (cI, 6, .inl (u_14p9.2.2.1 0)))] H := hP
      have hD : va_D A [(a0, .inr (6, [.ref a0_0, .int v0_1, .ref a0_2, .ref a0_3, .ref a0_4, .ref a0_5, .ref a0_6, .ref a0_7, .ref a0_8, .null, .int v0_10, .int v0_11, .int v0_12, .ref a0_13, .ref a0_14, .ref a0_15, .ref a0_16])), (a0_16, .inl (cI, 6, .inl (u_14p9.2.2.1 0)))] := hD
      refine lv_pop hx hb dX6_end_17 rfl ?_
      refine lv_iconst (v := 0) hx hb dX6_end_18 (by decide +kernel) ?_
      exact k_ri B hP hD hS dX6_end_19 ((fun k9 => match k9 with | 0 => v0_1 | _ => 0), (fun _ => 0), (fun k9 => match k9 with | 0 => (u_14p9.2.2.1 0) | _ => (fun _ => 0)), (fun _ => (fun _ => 0)), (fun _ => 0)) [0, 1] rfl rfl rfl (Nat.le_of_ble_eq_true rfl) (Nat.le_of_ble_eq_true rfl) ⟨(show iR 0 0 1 from (iR_c (n := 0) (a := 0) (b := 1) (by decide +kernel) (by decide +kernel))), (show iR v0_1 0 1600 from hv0_1), (show EDR v0_1 x1 0 v0_1 from (Or.inl ⟨(by have q0 : 1 ≤ x1.toInt ∧ x1.toInt ≤ 2147483647 := f_12_2; have q1 : 0 ≤ v0_1.toInt ∧ v0_1.toInt ≤ 1600 := hv0_1; have r1 : 0 ≤ x1.toInt := i_ti_le (by decide) rfl c_1; have r2 : v0_1.toInt < x1.toInt := i_ti_lt rfl rfl c_9; show x1.toInt < 0 ∨ v0_1.toInt < x1.toInt; omega), rfl, rfl⟩))⟩
set_option maxHeartbeats 8000000 in
set_option maxRecDepth 100000 in
theorem s_J7_fill_53178_v0 (l : Launch) (dC : Nat → ClassId) (dI : Nat → Nat → Nat) (cI cJ cZ cM : ClassId) (a0 : Nat) (f0 : Nat → Int32) (hf0 : aR f0 0 1600) : k_Mv l yJ7_fill_53178 wsJ7_fill_53178 ({ frames := 1, cells := 0, slots := 0, locals := 40 }) (dC, dI) vwCl (tyy cI cJ cZ cM) [(a0, .inl (cI, 3, .inl f0))] [.ref a0, .int 0] 0 0 (fun (u9 : SU) => [(a0, .inl (cI, 3, .inl (u9.2.2.1 0)))]) (fun (u9 : SU) => (aR (u9.2.2.1 0) 0 1600) ∧ (∀ j9, j9 < 3 → (u9.2.2.1 0) j9 = (0 : Int32))) := by
  refine fun sz => k_enterF (cc := cJ7_fill_53178) (maxL := 4) (ret := none) (Qc := fun A => va_Qv (fun (u9 : SU) => (aR (u9.2.2.1 0) 0 1600) ∧ (∀ j9, j9 < 3 → (u9.2.2.1 0) j9 = (0 : Int32))) (fun u => k_B (dC, dI) vwCl (tyy cI cJ cZ cM) A ((fun (u9 : SU) => [(a0, .inl (cI, 3, .inl (u9.2.2.1 0)))]) u)) A) sz (by decide +kernel) rfl (Nat.le_of_ble_eq_true rfl) (fun p e s m args below meth c A ls H locs B hP hD hS hl => ?_)
  obtain ⟨hx, hb, hml, hown, hts, hr, hlk, hnm, hK, hA, hN, hC⟩ := id B
  have hown : s.vm.findClass RJ7 = some m.cls := hown
  have hl : lv_has ls 4 [(0, .ref a0), (1, .int 0)] := hl
  refine lv_iconst (v := 0) hx hb dJ7_fill_53178_0 (by decide +kernel) ?_
  refine lv_istore_n (lv' := [(2, .int 0), (0, .ref a0), (1, .int 0)]) hx hb dJ7_fill_53178_1 rfl hl (by decide) rfl (fun ls hl => ?_)
  refine lv_aload_n hx hb dJ7_fill_53178_2 rfl (lv_at hl 1 rfl) ?_
  refine va_alen (v := 3) hx hb hK hP 0 0 rfl rfl rfl dJ7_fill_53178_3 ?_
  have J_5 : ∀ (n_5 : Nat) (j5_A0 : Nat → Int32) (j5_L2 : Int32) (hj5_A0 : aR j5_A0 0 1600) (hj5_L2 : iR j5_L2 0 3) (p5_0 : ∀ j9, j9 < j5_L2.toNatClampNeg → j5_A0 j9 = (0 : Int32)) (hm_5 : (3 - j5_L2.toInt).toNat < n_5) (H : Heap) (locs : List Loc) (ls : Array Slot), va_P (dC, dI) vwCl [(a0, .inl (cI, 3, .inl j5_A0))] H → va_D A [(a0, .inl (cI, 3, .inl j5_A0))] → va_S A s.heap H locs → lv_has ls 4 [(0, .ref a0), (1, .int 0), (2, .int j5_L2), (3, .int 3)] → W p l e ({ frames := 1, cells := 0, slots := 0, locals := 40 }) s m args below meth c H locs 0 0 (MQ below (va_Qv (fun (u9 : SU) => (aR (u9.2.2.1 0) 0 1600) ∧ (∀ j9, j9 < 3 → (u9.2.2.1 0) j9 = (0 : Int32))) (fun u => k_B (dC, dI) vwCl (tyy cI cJ cZ cM) A ((fun (u9 : SU) => [(a0, .inl (cI, 3, .inl (u9.2.2.1 0)))]) u)) A) args s 0 0 A) (F0 m 5 ls []) := by
    intro n_5
    induction n_5 with
    | zero => intro j5_A0 j5_L2 hj5_A0 hj5_L2 p5_0 hm_5; exact absurd hm_5 (Nat.not_lt_zero _)
    | succ n_5 ih_5 =>
      intro j5_A0 j5_L2 hj5_A0 hj5_L2 p5_0 hm_5 H locs ls hP hD hS hl
      refine lv_iload_n hx hb dJ7_fill_53178_5 rfl (lv_at hl 2 rfl) ?_
      refine lv_iload_n hx hb dJ7_fill_53178_6 rfl (lv_at hl 3 rfl) ?_
      refine lv_icmp_ge (tgt := 20) hx hb dJ7_fill_53178_7 (by decide) (fun c_7 => ?_) (fun c_7 => ?_)
      · have c_7 : 3 ≤ j5_L2 := c_7
        have f_20_1 : iR j5_L2 3 3 := iR_leR c_7 (iR_c (n := 3) (a := 3) (b := 3) (by decide +kernel) (by decide +kernel)) hj5_L2 (by decide +kernel)
        exact k_rv B hP hD hS dJ7_fill_53178_20 ((fun _ => 0), (fun _ => 0), (fun k9 => match k9 with | 0 => j5_A0 | _ => (fun _ => 0)), (fun _ => (fun _ => 0)), (fun _ => 0)) [0] rfl rfl (Nat.le_of_ble_eq_true rfl) (Nat.le_of_ble_eq_true rfl) ⟨(show aR j5_A0 0 1600 from hj5_A0), (show ∀ j9, j9 < 3 → j5_A0 j9 = (0 : Int32) from (fun j9 hj => p5_0 j9 (Nat.lt_of_lt_of_le hj (i_geL c_7 f_20_1 (by decide +kernel)))))⟩
      · have c_7 : j5_L2 < 3 := i_nle c_7
        have f_10_1 : iR j5_L2 0 2 := iR_ltL c_7 hj5_L2 (iR_c (n := 3) (a := 3) (b := 3) (by decide +kernel) (by decide +kernel)) (by decide +kernel)
        refine lv_aload_n hx hb dJ7_fill_53178_10 rfl (lv_at hl 0 rfl) ?_
        refine lv_iload_n hx hb dJ7_fill_53178_11 rfl (lv_at hl 2 rfl) ?_
        refine lv_iload_n hx hb dJ7_fill_53178_12 rfl (lv_at hl 1 rfl) ?_
        refine s_iast (g := (upd j5_A0 j5_L2.toNatClampNeg 0)) (ws' := [(a0, .inl (cI, 3, .inl (upd j5_A0 j5_L2.toNatClampNeg 0)))]) hx hb hK hP hD hS 0 0 rfl rfl (iR_vp f_10_1 (by decide +kernel)) rfl rfl dJ7_fill_53178_13 (fun H locs hP hD hS => ?_)
        obtain ⟨y_14, ey_14⟩ : ∃ y : Int32, y = j5_L2 + 1 := ⟨_, rfl⟩
        refine lv_iinc (v := y_14) (lv' := [(2, .int y_14), (0, .ref a0), (1, .int 0), (3, .int 3)]) hx hb dJ7_fill_53178_14 hl (k := 2) rfl ey_14.symm (by decide) rfl (fun ls hl => ?_)
        have f_14_2 : iR y_14 1 3 := iR_add ey_14 f_10_1 (iR_c (n := 1) (a := 1) (b := 1) (by decide +kernel) (by decide +kernel)) (by decide +kernel)
        refine lv_goto (tgt := 5) hx hb dJ7_fill_53178_17 (by decide) ?_
        exact ih_5 (upd j5_A0 j5_L2.toNatClampNeg 0) y_14 (aR_upd _ hj5_A0 (iR_c (n := 0) (a := 0) (b := 1600) (by decide +kernel) (by decide +kernel))) (iR_w f_14_2 (by decide +kernel)) (show ∀ j9, j9 < y_14.toNatClampNeg → (upd j5_A0 j5_L2.toNatClampNeg 0) j9 = (0 : Int32) from (by rw [i_succ ey_14 f_10_1 (by decide +kernel)]; exact fill_s p5_0)) (m_up (B := 3) hm_5 ey_14 f_10_1 (by decide +kernel)) H locs ls hP hD hS (lv_sub hl [1, 2, 0, 3] rfl)
  refine lv_istore_n (lv' := [(3, .int 3), (2, .int 0), (0, .ref a0), (1, .int 0)]) hx hb dJ7_fill_53178_4 rfl hl (by decide) rfl (fun ls hl => ?_)
  exact J_5 _ f0 0 hf0 (iR_c (n := 0) (a := 0) (b := 3) (by decide +kernel) (by decide +kernel)) (show ∀ j9, j9 < 0 → f0 j9 = (0 : Int32) from (fun j9 hj => absurd hj (Nat.not_lt_zero _))) (Nat.lt_succ_self _) H locs ls hP hD hS (lv_sub hl [2, 3, 1, 0] rfl)
set_option maxHeartbeats 8000000 in
set_option maxRecDepth 100000 in
theorem s_X2_isWhole_v0 (l : Launch) (dC : Nat → ClassId) (dI : Nat → Nat → Nat) (cI cJ cZ cM : ClassId) (x0 : Int32)  : k_Mi l yX2_isWhole wsX2_isWhole ({ frames := 1, cells := 0, slots := 0, locals := 40 }) (dC, dI) vwCl (tyy cI cJ cZ cM) [] [.int x0] 0 0 (fun (u9 : Unit) => []) (fun (r9 : Int32) (u9 : Unit) => (iR r9 0 1) ∧ (r9 = bI (wh x0))) := by
  refine fun sz => k_enter (cc := cX2_isWhole) (maxL := 1) (ret := some (.boolean)) (Qc := fun A => va_Qi (fun (r9 : Int32) (u9 : Unit) => (iR r9 0 1) ∧ (r9 = bI (wh x0))) (fun u => k_B (dC, dI) vwCl (tyy cI cJ cZ cM) A ((fun (u9 : Unit) => []) u)) A) sz (by decide +kernel) rfl (Nat.le_of_ble_eq_true rfl) (fun p e s m args below meth c A ls H locs B hP hD hS hl => ?_)
  obtain ⟨hx, hb, hml, hown, hts, hr, hlk, hnm, hK, hA, hN, hC⟩ := id B
  have hown : s.vm.findClass RX2 = some m.cls := hown
  have hl : lv_has ls 1 [(0, .int x0)] := hl
  refine lv_iload_n hx hb dX2_isWhole_0 rfl (lv_at hl 0 rfl) ?_
  refine lv_sipush (v := 257) hx hb dX2_isWhole_1 (by decide +kernel) ?_
  refine lv_icmp_eq (tgt := 21) hx hb dX2_isWhole_4 (by decide) (fun c_4 => ?_) (fun c_4 => ?_)
  · have c_4 : x0 = 257 := c_4
    have f_21_1 : iR x0 257 257 := iR_eqL c_4 (iR_top _) (iR_c (n := 257) (a := 257) (b := 257) (by decide +kernel) (by decide +kernel)) (by decide +kernel)
    refine lv_iconst (v := 1) hx hb dX2_isWhole_21 (by decide +kernel) ?_
    refine lv_goto (tgt := 26) hx hb dX2_isWhole_22 (by decide) ?_
    exact k_ri B hP hD hS dX2_isWhole_26 () [] rfl rfl rfl (Nat.le_of_ble_eq_true rfl) (Nat.le_of_ble_eq_true rfl) ⟨(show iR 1 0 1 from (iR_c (n := 1) (a := 0) (b := 1) (by decide +kernel) (by decide +kernel))), (show 1 = bI (wh x0) from (bI_1 (decide_eq_true (Or.inl c_4))))⟩
  · have c_4 : ¬ x0 = 257 := c_4
    refine lv_iload_n hx hb dX2_isWhole_7 rfl (lv_at hl 0 rfl) ?_
    refine lv_sipush (v := 258) hx hb dX2_isWhole_8 (by decide +kernel) ?_
    refine lv_icmp_eq (tgt := 21) hx hb dX2_isWhole_11 (by decide) (fun c_11 => ?_) (fun c_11 => ?_)
    · have c_11 : x0 = 258 := c_11
      have f_21_1 : iR x0 258 258 := iR_eqL c_11 (iR_top _) (iR_c (n := 258) (a := 258) (b := 258) (by decide +kernel) (by decide +kernel)) (by decide +kernel)
      refine lv_iconst (v := 1) hx hb dX2_isWhole_21 (by decide +kernel) ?_
      refine lv_goto (tgt := 26) hx hb dX2_isWhole_22 (by decide) ?_
      exact k_ri B hP hD hS dX2_isWhole_26 () [] rfl rfl rfl (Nat.le_of_ble_eq_true rfl) (Nat.le_of_ble_eq_true rfl) ⟨(show iR 1 0 1 from (iR_c (n := 1) (a := 0) (b := 1) (by decide +kernel) (by decide +kernel))), (show 1 = bI (wh x0) from (bI_1 (decide_eq_true (Or.inr (Or.inl c_11)))))⟩
    · have c_11 : ¬ x0 = 258 := c_11
      refine lv_iload_n hx hb dX2_isWhole_14 rfl (lv_at hl 0 rfl) ?_
      refine lv_sipush (v := 300) hx hb dX2_isWhole_15 (by decide +kernel) ?_
      refine lv_icmp_lt (tgt := 25) hx hb dX2_isWhole_18 (by decide) (fun c_18 => ?_) (fun c_18 => ?_)
      · have c_18 : x0 < 300 := c_18
        have f_25_1 : iR x0 (-2147483648) 299 := iR_ltL c_18 (iR_top _) (iR_c (n := 300) (a := 300) (b := 300) (by decide +kernel) (by decide +kernel)) (by decide +kernel)
        refine lv_iconst (v := 0) hx hb dX2_isWhole_25 (by decide +kernel) ?_
        exact k_ri B hP hD hS dX2_isWhole_26 () [] rfl rfl rfl (Nat.le_of_ble_eq_true rfl) (Nat.le_of_ble_eq_true rfl) ⟨(show iR 0 0 1 from (iR_c (n := 0) (a := 0) (b := 1) (by decide +kernel) (by decide +kernel))), (show 0 = bI (wh x0) from (bI_0 (decide_eq_false (fun q9 => q9.elim (fun q9 => c_4 q9) (fun q9 => q9.elim (fun q9 => c_11 q9) (fun q9 => i_lenl q9 c_18))))))⟩
      · have c_18 : 300 ≤ x0 := i_nlt c_18
        have f_21_1 : iR x0 300 2147483647 := iR_leR c_18 (iR_c (n := 300) (a := 300) (b := 300) (by decide +kernel) (by decide +kernel)) (iR_top _) (by decide +kernel)
        refine lv_iconst (v := 1) hx hb dX2_isWhole_21 (by decide +kernel) ?_
        refine lv_goto (tgt := 26) hx hb dX2_isWhole_22 (by decide) ?_
        exact k_ri B hP hD hS dX2_isWhole_26 () [] rfl rfl rfl (Nat.le_of_ble_eq_true rfl) (Nat.le_of_ble_eq_true rfl) ⟨(show iR 1 0 1 from (iR_c (n := 1) (a := 0) (b := 1) (by decide +kernel) (by decide +kernel))), (show 1 = bI (wh x0) from (bI_1 (decide_eq_true (Or.inr (Or.inr c_18)))))⟩
set_option maxHeartbeats 8000000 in
set_option maxRecDepth 100000 in
theorem s_X2_blame_v0 (l : Launch) (dC : Nat → ClassId) (dI : Nat → Nat → Nat) (cI cJ cZ cM : ClassId) (a0 : Nat) (x1 : Int32) (x2 : Int32) (a0_0 : Nat) (a0_1 : Nat) (a0_2 : Nat) (v0_3 : Int32) (v0_4 : Int32) (v0_5 : Int32) (v0_6 : Int32) (v0_7 : Int32) (v0_9 : Int32) (v0_10 : Int32) (hx1 : iR x1 1 6) (hv0_3 : iR v0_3 0 1600) (hv0_4 : iR v0_4 0 1600) (hv0_5 : iR v0_5 0 1600) (hv0_6 : iR v0_6 0 324) (hv0_9 : iR v0_9 0 6) (hpg0 : (v0_9 = 0) ∨ ((v0_6 = 259))) : k_Mv l yX2_blame wsX2_blame ({ frames := 1, cells := 0, slots := 0, locals := 40 }) (dC, dI) vwCl (tyy cI cJ cZ cM) [(a0, .inr (2, [.ref a0_0, .ref a0_1, .ref a0_2, .int v0_3, .int v0_4, .int v0_5, .int v0_6, .int v0_7, .int 0, .int v0_9, .int v0_10]))] [.ref a0, .int x1, .int x2] 0 0 (fun (u9 : SU) => [(a0, .inr (2, [.ref a0_0, .ref a0_1, .ref a0_2, .int v0_3, .int v0_4, .int v0_5, .int (u9.1 0), .int v0_7, .int 0, .int (u9.1 1), .int (u9.1 2)]))]) (fun (u9 : SU) => (iR (u9.1 0) 259 259) ∧ (iR (u9.1 1) 1 6) ∧ (BL v0_6 v0_9 v0_10 x1 x2 (u9.1 0) (u9.1 1) (u9.1 2)) ∧ ((0 : Int32) < v0_9 → (0 : Int32) < (u9.1 1)) ∧ (((u9.1 1) = 0) ∨ (((u9.1 0) = 259)))) := by
  refine fun sz => k_enter (cc := cX2_blame) (maxL := 3) (ret := none) (Qc := fun A => va_Qv (fun (u9 : SU) => (iR (u9.1 0) 259 259) ∧ (iR (u9.1 1) 1 6) ∧ (BL v0_6 v0_9 v0_10 x1 x2 (u9.1 0) (u9.1 1) (u9.1 2)) ∧ ((0 : Int32) < v0_9 → (0 : Int32) < (u9.1 1)) ∧ (((u9.1 1) = 0) ∨ (((u9.1 0) = 259)))) (fun u => k_B (dC, dI) vwCl (tyy cI cJ cZ cM) A ((fun (u9 : SU) => [(a0, .inr (2, [.ref a0_0, .ref a0_1, .ref a0_2, .int v0_3, .int v0_4, .int v0_5, .int (u9.1 0), .int v0_7, .int 0, .int (u9.1 1), .int (u9.1 2)]))]) u)) A) sz (by decide +kernel) rfl (Nat.le_of_ble_eq_true rfl) (fun p e s m args below meth c A ls H locs B hP hD hS hl => ?_)
  obtain ⟨hx, hb, hml, hown, hts, hr, hlk, hnm, hK, hA, hN, hC⟩ := id B
  have hown : s.vm.findClass RX2 = some m.cls := hown
  have hl : lv_has ls 3 [(0, .ref a0), (1, .int x1), (2, .int x2)] := hl
  have w_0 : (Cond.fieldLink RX2 63 "WishSea$Reader" "fault" "I").before args s = true := hts _ (List.mem_of_getElem? (i := 1) rfl)
  have w_1 : (Cond.fieldLink RX2 19 "WishSea$Reader" "place" "I").before args s = true := hts _ (List.mem_of_getElem? (i := 2) rfl)
  have w_2 : (Cond.fieldLink RX2 15 "WishSea$Reader" "token" "I").before args s = true := hts _ (List.mem_of_getElem? (i := 3) rfl)
  have hinX2 : ∀ w ∈ u_ws RX2 TX2 11, w ∈ wsX2_blame := fun _ h => List.mem_cons_of_mem _ (List.mem_append_right _ h)
  refine lv_aload_n hx hb dX2_blame_0 rfl (lv_at hl 0 rfl) ?_
  refine k_get (D := (dC, dI)) (ci := 2) (v := .int v0_9) (C := RX2) (T := TX2) (N := 11) hx hb hts hinX2 hown hK hP 0 rfl rfl 9 (by decide) w_0 rfl rfl dX2_blame_1 ?_
  refine lv_if_ne (tgt := 24) hx hb dX2_blame_4 (by decide) (fun c_4 => ?_) (fun c_4 => ?_)
  · have c_4 : ¬ v0_9 = 0 := c_4
    have f_24_1 : iR v0_9 1 6 := iR_neL c_4 hv0_9 (iR_c (n := 0) (a := 0) (b := 0) (by decide +kernel) (by decide +kernel)) (by decide +kernel)
    obtain d_4_1_0 := hpg0.resolve_left c_4
    have f_24_2 : iR v0_6 259 259 := iR_eqL d_4_1_0 hv0_6 (iR_c (n := 259) (a := 259) (b := 259) (by decide +kernel) (by decide +kernel)) (by decide +kernel)
    exact k_rv B hP hD hS dX2_blame_24 ((fun k9 => match k9 with | 0 => v0_6 | 1 => v0_9 | 2 => v0_10 | _ => 0), (fun _ => 0), (fun _ => (fun _ => 0)), (fun _ => (fun _ => 0)), (fun _ => 0)) [0] rfl rfl (Nat.le_of_ble_eq_true rfl) (Nat.le_of_ble_eq_true rfl) ⟨(show iR v0_6 259 259 from f_24_2), (show iR v0_9 1 6 from f_24_1), (show BL v0_6 v0_9 v0_10 x1 x2 v0_6 v0_9 v0_10 from (Or.inr ⟨c_4, rfl, rfl, rfl⟩)), (show (0 : Int32) < v0_9 → (0 : Int32) < v0_9 from (fun h => h)), (show (v0_9 = 0) ∨ ((v0_6 = 259)) from (Or.inr d_4_1_0))⟩
  · have c_4 : v0_9 = 0 := c_4
    have f_7_1 : iR v0_9 0 0 := iR_eqL c_4 hv0_9 (iR_c (n := 0) (a := 0) (b := 0) (by decide +kernel) (by decide +kernel)) (by decide +kernel)
    refine lv_aload_n hx hb dX2_blame_7 rfl (lv_at hl 0 rfl) ?_
    refine lv_iload_n hx hb dX2_blame_8 rfl (lv_at hl 1 rfl) ?_
    refine k_put (D := (dC, dI)) (ci := 2) (v := .int x1) (C := RX2) (T := TX2) (N := 11) (ws' := [(a0, .inr (2, [.ref a0_0, .ref a0_1, .ref a0_2, .int v0_3, .int v0_4, .int v0_5, .int v0_6, .int v0_7, .int 0, .int x1, .int v0_10]))]) hx hb hts hinX2 tyX2 tyX2_ok nmX2 hown hK hP hD hS 0 rfl rfl 9 (by decide) w_0 rfl rfl rfl rfl (Nat.le_of_ble_eq_true rfl) rfl dX2_blame_9 (fun H locs hP hD hS => ?_)
    refine lv_aload_n hx hb dX2_blame_12 rfl (lv_at hl 0 rfl) ?_
    refine lv_iload_n hx hb dX2_blame_13 rfl (lv_at hl 2 rfl) ?_
    refine k_put (D := (dC, dI)) (ci := 2) (v := .int x2) (C := RX2) (T := TX2) (N := 11) (ws' := [(a0, .inr (2, [.ref a0_0, .ref a0_1, .ref a0_2, .int v0_3, .int v0_4, .int v0_5, .int v0_6, .int v0_7, .int 0, .int x1, .int x2]))]) hx hb hts hinX2 tyX2 tyX2_ok nmX2 hown hK hP hD hS 0 rfl rfl 10 (by decide) w_1 rfl rfl rfl rfl (Nat.le_of_ble_eq_true rfl) rfl dX2_blame_14 (fun H locs hP hD hS => ?_)
    refine lv_aload_n hx hb dX2_blame_17 rfl (lv_at hl 0 rfl) ?_
    refine lv_sipush (v := 259) hx hb dX2_blame_18 (by decide +kernel) ?_
    refine k_put (D := (dC, dI)) (ci := 2) (v := .int 259) (C := RX2) (T := TX2) (N := 11) (ws' := [(a0, .inr (2, [.ref a0_0, .ref a0_1, .ref a0_2, .int v0_3, .int v0_4, .int v0_5, .int 259, .int v0_7, .int 0, .int x1, .int x2]))]) hx hb hts hinX2 tyX2 tyX2_ok nmX2 hown hK hP hD hS 0 rfl rfl 6 (by decide) w_2 rfl rfl rfl rfl (Nat.le_of_ble_eq_true rfl) rfl dX2_blame_21 (fun H locs hP hD hS => ?_)
    exact k_rv B hP hD hS dX2_blame_24 ((fun k9 => match k9 with | 0 => 259 | 1 => x1 | 2 => x2 | _ => 0), (fun _ => 0), (fun _ => (fun _ => 0)), (fun _ => (fun _ => 0)), (fun _ => 0)) [0] rfl rfl (Nat.le_of_ble_eq_true rfl) (Nat.le_of_ble_eq_true rfl) ⟨(show iR 259 259 259 from (iR_c (n := 259) (a := 259) (b := 259) (by decide +kernel) (by decide +kernel))), (show iR x1 1 6 from hx1), (show BL v0_6 v0_9 v0_10 x1 x2 259 x1 x2 from (Or.inl ⟨c_4, rfl, rfl, rfl⟩)), (show (0 : Int32) < v0_9 → (0 : Int32) < x1 from (fun _ => (i_ltf (iR_c (n := 0) (a := 0) (b := 0) (by decide +kernel) (by decide +kernel)) hx1 (by decide +kernel)))), (show (x1 = 0) ∨ ((259 = 259)) from (Or.inr rfl))⟩
set_option maxHeartbeats 8000000 in
set_option maxRecDepth 100000 in
theorem s_X2_isLetter_v0 (l : Launch) (dC : Nat → ClassId) (dI : Nat → Nat → Nat) (cI cJ cZ cM : ClassId) (x0 : Int32)  : k_Mi l yX2_isLetter wsX2_isLetter ({ frames := 1, cells := 0, slots := 0, locals := 40 }) (dC, dI) vwCl (tyy cI cJ cZ cM) [] [.int x0] 0 0 (fun (u9 : Unit) => []) (fun (r9 : Int32) (u9 : Unit) => (iR r9 0 1) ∧ (r9 = bI (cL x0))) := by
  refine fun sz => k_enter (cc := cX2_isLetter) (maxL := 1) (ret := some (.boolean)) (Qc := fun A => va_Qi (fun (r9 : Int32) (u9 : Unit) => (iR r9 0 1) ∧ (r9 = bI (cL x0))) (fun u => k_B (dC, dI) vwCl (tyy cI cJ cZ cM) A ((fun (u9 : Unit) => []) u)) A) sz (by decide +kernel) rfl (Nat.le_of_ble_eq_true rfl) (fun p e s m args below meth c A ls H locs B hP hD hS hl => ?_)
  obtain ⟨hx, hb, hml, hown, hts, hr, hlk, hnm, hK, hA, hN, hC⟩ := id B
  have hown : s.vm.findClass RX2 = some m.cls := hown
  have hl : lv_has ls 1 [(0, .int x0)] := hl
  refine lv_iload_n hx hb dX2_isLetter_0 rfl (lv_at hl 0 rfl) ?_
  refine lv_bipush (v := 97) hx hb dX2_isLetter_1 (by decide +kernel) ?_
  refine lv_icmp_lt (tgt := 16) hx hb dX2_isLetter_3 (by decide) (fun c_3 => ?_) (fun c_3 => ?_)
  · have c_3 : x0 < 97 := c_3
    have f_16_1 : iR x0 (-2147483648) 96 := iR_ltL c_3 (iR_top _) (iR_c (n := 97) (a := 97) (b := 97) (by decide +kernel) (by decide +kernel)) (by decide +kernel)
    refine lv_iconst (v := 0) hx hb dX2_isLetter_16 (by decide +kernel) ?_
    exact k_ri B hP hD hS dX2_isLetter_17 () [] rfl rfl rfl (Nat.le_of_ble_eq_true rfl) (Nat.le_of_ble_eq_true rfl) ⟨(show iR 0 0 1 from (iR_c (n := 0) (a := 0) (b := 1) (by decide +kernel) (by decide +kernel))), (show 0 = bI (cL x0) from (bI_0 (cL_lo c_3)))⟩
  · have c_3 : 97 ≤ x0 := i_nlt c_3
    have f_6_1 : iR x0 97 2147483647 := iR_leR c_3 (iR_c (n := 97) (a := 97) (b := 97) (by decide +kernel) (by decide +kernel)) (iR_top _) (by decide +kernel)
    refine lv_iload_n hx hb dX2_isLetter_6 rfl (lv_at hl 0 rfl) ?_
    refine lv_bipush (v := 122) hx hb dX2_isLetter_7 (by decide +kernel) ?_
    refine lv_icmp_gt (tgt := 16) hx hb dX2_isLetter_9 (by decide) (fun c_9 => ?_) (fun c_9 => ?_)
    · have c_9 : 122 < x0 := c_9
      have f_16_2 : iR x0 123 2147483647 := iR_ltR c_9 (iR_c (n := 122) (a := 122) (b := 122) (by decide +kernel) (by decide +kernel)) f_6_1 (by decide +kernel)
      refine lv_iconst (v := 0) hx hb dX2_isLetter_16 (by decide +kernel) ?_
      exact k_ri B hP hD hS dX2_isLetter_17 () [] rfl rfl rfl (Nat.le_of_ble_eq_true rfl) (Nat.le_of_ble_eq_true rfl) ⟨(show iR 0 0 1 from (iR_c (n := 0) (a := 0) (b := 1) (by decide +kernel) (by decide +kernel))), (show 0 = bI (cL x0) from (bI_0 (cL_hi c_9)))⟩
    · have c_9 : x0 ≤ 122 := i_nlt c_9
      have f_12_2 : iR x0 97 122 := iR_leL c_9 f_6_1 (iR_c (n := 122) (a := 122) (b := 122) (by decide +kernel) (by decide +kernel)) (by decide +kernel)
      refine lv_iconst (v := 1) hx hb dX2_isLetter_12 (by decide +kernel) ?_
      refine lv_goto (tgt := 17) hx hb dX2_isLetter_13 (by decide) ?_
      exact k_ri B hP hD hS dX2_isLetter_17 () [] rfl rfl rfl (Nat.le_of_ble_eq_true rfl) (Nat.le_of_ble_eq_true rfl) ⟨(show iR 1 0 1 from (iR_c (n := 1) (a := 0) (b := 1) (by decide +kernel) (by decide +kernel))), (show 1 = bI (cL x0) from (bI_1 (cP_t c_3 c_9)))⟩
set_option maxHeartbeats 8000000 in
set_option maxRecDepth 100000 in
theorem s_X2_isDigit_v0 (l : Launch) (dC : Nat → ClassId) (dI : Nat → Nat → Nat) (cI cJ cZ cM : ClassId) (x0 : Int32)  : k_Mi l yX2_isDigit wsX2_isDigit ({ frames := 1, cells := 0, slots := 0, locals := 40 }) (dC, dI) vwCl (tyy cI cJ cZ cM) [] [.int x0] 0 0 (fun (u9 : Unit) => []) (fun (r9 : Int32) (u9 : Unit) => (iR r9 0 1) ∧ (r9 = bI (cD x0))) := by
  refine fun sz => k_enter (cc := cX2_isDigit) (maxL := 1) (ret := some (.boolean)) (Qc := fun A => va_Qi (fun (r9 : Int32) (u9 : Unit) => (iR r9 0 1) ∧ (r9 = bI (cD x0))) (fun u => k_B (dC, dI) vwCl (tyy cI cJ cZ cM) A ((fun (u9 : Unit) => []) u)) A) sz (by decide +kernel) rfl (Nat.le_of_ble_eq_true rfl) (fun p e s m args below meth c A ls H locs B hP hD hS hl => ?_)
  obtain ⟨hx, hb, hml, hown, hts, hr, hlk, hnm, hK, hA, hN, hC⟩ := id B
  have hown : s.vm.findClass RX2 = some m.cls := hown
  have hl : lv_has ls 1 [(0, .int x0)] := hl
  refine lv_iload_n hx hb dX2_isDigit_0 rfl (lv_at hl 0 rfl) ?_
  refine lv_bipush (v := 48) hx hb dX2_isDigit_1 (by decide +kernel) ?_
  refine lv_icmp_lt (tgt := 16) hx hb dX2_isDigit_3 (by decide) (fun c_3 => ?_) (fun c_3 => ?_)
  · have c_3 : x0 < 48 := c_3
    have f_16_1 : iR x0 (-2147483648) 47 := iR_ltL c_3 (iR_top _) (iR_c (n := 48) (a := 48) (b := 48) (by decide +kernel) (by decide +kernel)) (by decide +kernel)
    refine lv_iconst (v := 0) hx hb dX2_isDigit_16 (by decide +kernel) ?_
    exact k_ri B hP hD hS dX2_isDigit_17 () [] rfl rfl rfl (Nat.le_of_ble_eq_true rfl) (Nat.le_of_ble_eq_true rfl) ⟨(show iR 0 0 1 from (iR_c (n := 0) (a := 0) (b := 1) (by decide +kernel) (by decide +kernel))), (show 0 = bI (cD x0) from (bI_0 (cD_lo c_3)))⟩
  · have c_3 : 48 ≤ x0 := i_nlt c_3
    have f_6_1 : iR x0 48 2147483647 := iR_leR c_3 (iR_c (n := 48) (a := 48) (b := 48) (by decide +kernel) (by decide +kernel)) (iR_top _) (by decide +kernel)
    refine lv_iload_n hx hb dX2_isDigit_6 rfl (lv_at hl 0 rfl) ?_
    refine lv_bipush (v := 57) hx hb dX2_isDigit_7 (by decide +kernel) ?_
    refine lv_icmp_gt (tgt := 16) hx hb dX2_isDigit_9 (by decide) (fun c_9 => ?_) (fun c_9 => ?_)
    · have c_9 : 57 < x0 := c_9
      have f_16_2 : iR x0 58 2147483647 := iR_ltR c_9 (iR_c (n := 57) (a := 57) (b := 57) (by decide +kernel) (by decide +kernel)) f_6_1 (by decide +kernel)
      refine lv_iconst (v := 0) hx hb dX2_isDigit_16 (by decide +kernel) ?_
      exact k_ri B hP hD hS dX2_isDigit_17 () [] rfl rfl rfl (Nat.le_of_ble_eq_true rfl) (Nat.le_of_ble_eq_true rfl) ⟨(show iR 0 0 1 from (iR_c (n := 0) (a := 0) (b := 1) (by decide +kernel) (by decide +kernel))), (show 0 = bI (cD x0) from (bI_0 (cD_hi c_9)))⟩
    · have c_9 : x0 ≤ 57 := i_nlt c_9
      have f_12_2 : iR x0 48 57 := iR_leL c_9 f_6_1 (iR_c (n := 57) (a := 57) (b := 57) (by decide +kernel) (by decide +kernel)) (by decide +kernel)
      refine lv_iconst (v := 1) hx hb dX2_isDigit_12 (by decide +kernel) ?_
      refine lv_goto (tgt := 17) hx hb dX2_isDigit_13 (by decide) ?_
      exact k_ri B hP hD hS dX2_isDigit_17 () [] rfl rfl rfl (Nat.le_of_ble_eq_true rfl) (Nat.le_of_ble_eq_true rfl) ⟨(show iR 1 0 1 from (iR_c (n := 1) (a := 0) (b := 1) (by decide +kernel) (by decide +kernel))), (show 1 = bI (cD x0) from (bI_1 (cP_f c_3 c_9)))⟩
set_option maxHeartbeats 8000000 in
set_option maxRecDepth 100000 in
theorem s_X2_blame_v1 (l : Launch) (dC : Nat → ClassId) (dI : Nat → Nat → Nat) (cI cJ cZ cM : ClassId) (a0 : Nat) (x1 : Int32) (x2 : Int32) (a0_0 : Nat) (b0_1 : Nat) (b0_2 : Nat) (v0_3 : Int32) (v0_4 : Int32) (v0_5 : Int32) (v0_6 : Int32) (v0_7 : Int32) (v0_9 : Int32) (v0_10 : Int32) (hx1 : iR x1 1 6) (hv0_3 : iR v0_3 0 1600) (hv0_4 : iR v0_4 0 1600) (hv0_5 : iR v0_5 0 1600) (hv0_6 : iR v0_6 0 324) (hv0_9 : iR v0_9 0 6) (hpg0 : (v0_9 = 0) ∨ ((v0_6 = 259))) : k_Mv l yX2_blame wsX2_blame ({ frames := 1, cells := 0, slots := 0, locals := 40 }) (dC, dI) vwCl (tyy cI cJ cZ cM) [(a0, .inr (2, [.ref a0_0, .ref b0_1, .ref b0_2, .int v0_3, .int v0_4, .int v0_5, .int v0_6, .int v0_7, .int 0, .int v0_9, .int v0_10]))] [.ref a0, .int x1, .int x2] 0 0 (fun (u9 : SU) => [(a0, .inr (2, [.ref a0_0, .ref b0_1, .ref b0_2, .int v0_3, .int v0_4, .int v0_5, .int (u9.1 0), .int v0_7, .int 0, .int (u9.1 1), .int (u9.1 2)]))]) (fun (u9 : SU) => (iR (u9.1 0) 259 259) ∧ (iR (u9.1 1) 1 6) ∧ (BL v0_6 v0_9 v0_10 x1 x2 (u9.1 0) (u9.1 1) (u9.1 2)) ∧ ((0 : Int32) < v0_9 → (0 : Int32) < (u9.1 1)) ∧ (((u9.1 1) = 0) ∨ (((u9.1 0) = 259)))) := by
  refine fun sz => k_enter (cc := cX2_blame) (maxL := 3) (ret := none) (Qc := fun A => va_Qv (fun (u9 : SU) => (iR (u9.1 0) 259 259) ∧ (iR (u9.1 1) 1 6) ∧ (BL v0_6 v0_9 v0_10 x1 x2 (u9.1 0) (u9.1 1) (u9.1 2)) ∧ ((0 : Int32) < v0_9 → (0 : Int32) < (u9.1 1)) ∧ (((u9.1 1) = 0) ∨ (((u9.1 0) = 259)))) (fun u => k_B (dC, dI) vwCl (tyy cI cJ cZ cM) A ((fun (u9 : SU) => [(a0, .inr (2, [.ref a0_0, .ref b0_1, .ref b0_2, .int v0_3, .int v0_4, .int v0_5, .int (u9.1 0), .int v0_7, .int 0, .int (u9.1 1), .int (u9.1 2)]))]) u)) A) sz (by decide +kernel) rfl (Nat.le_of_ble_eq_true rfl) (fun p e s m args below meth c A ls H locs B hP hD hS hl => ?_)
  obtain ⟨hx, hb, hml, hown, hts, hr, hlk, hnm, hK, hA, hN, hC⟩ := id B
  have hown : s.vm.findClass RX2 = some m.cls := hown
  have hl : lv_has ls 3 [(0, .ref a0), (1, .int x1), (2, .int x2)] := hl
  have w_0 : (Cond.fieldLink RX2 63 "WishSea$Reader" "fault" "I").before args s = true := hts _ (List.mem_of_getElem? (i := 1) rfl)
  have w_1 : (Cond.fieldLink RX2 19 "WishSea$Reader" "place" "I").before args s = true := hts _ (List.mem_of_getElem? (i := 2) rfl)
  have w_2 : (Cond.fieldLink RX2 15 "WishSea$Reader" "token" "I").before args s = true := hts _ (List.mem_of_getElem? (i := 3) rfl)
  have hinX2 : ∀ w ∈ u_ws RX2 TX2 11, w ∈ wsX2_blame := fun _ h => List.mem_cons_of_mem _ (List.mem_append_right _ h)
  refine lv_aload_n hx hb dX2_blame_0 rfl (lv_at hl 0 rfl) ?_
  refine k_get (D := (dC, dI)) (ci := 2) (v := .int v0_9) (C := RX2) (T := TX2) (N := 11) hx hb hts hinX2 hown hK hP 0 rfl rfl 9 (by decide) w_0 rfl rfl dX2_blame_1 ?_
  refine lv_if_ne (tgt := 24) hx hb dX2_blame_4 (by decide) (fun c_4 => ?_) (fun c_4 => ?_)
  · have c_4 : ¬ v0_9 = 0 := c_4
    have f_24_1 : iR v0_9 1 6 := iR_neL c_4 hv0_9 (iR_c (n := 0) (a := 0) (b := 0) (by decide +kernel) (by decide +kernel)) (by decide +kernel)
    obtain d_4_1_0 := hpg0.resolve_left c_4
    have f_24_2 : iR v0_6 259 259 := iR_eqL d_4_1_0 hv0_6 (iR_c (n := 259) (a := 259) (b := 259) (by decide +kernel) (by decide +kernel)) (by decide +kernel)
    exact k_rv B hP hD hS dX2_blame_24 ((fun k9 => match k9 with | 0 => v0_6 | 1 => v0_9 | 2 => v0_10 | _ => 0), (fun _ => 0), (fun _ => (fun _ => 0)), (fun _ => (fun _ => 0)), (fun _ => 0)) [0] rfl rfl (Nat.le_of_ble_eq_true rfl) (Nat.le_of_ble_eq_true rfl) ⟨(show iR v0_6 259 259 from f_24_2), (show iR v0_9 1 6 from f_24_1), (show BL v0_6 v0_9 v0_10 x1 x2 v0_6 v0_9 v0_10 from (Or.inr ⟨c_4, rfl, rfl, rfl⟩)), (show (0 : Int32) < v0_9 → (0 : Int32) < v0_9 from (fun h => h)), (show (v0_9 = 0) ∨ ((v0_6 = 259)) from (Or.inr d_4_1_0))⟩
  · have c_4 : v0_9 = 0 := c_4
    have f_7_1 : iR v0_9 0 0 := iR_eqL c_4 hv0_9 (iR_c (n := 0) (a := 0) (b := 0) (by decide +kernel) (by decide +kernel)) (by decide +kernel)
    refine lv_aload_n hx hb dX2_blame_7 rfl (lv_at hl 0 rfl) ?_
    refine lv_iload_n hx hb dX2_blame_8 rfl (lv_at hl 1 rfl) ?_
    refine k_put (D := (dC, dI)) (ci := 2) (v := .int x1) (C := RX2) (T := TX2) (N := 11) (ws' := [(a0, .inr (2, [.ref a0_0, .ref b0_1, .ref b0_2, .int v0_3, .int v0_4, .int v0_5, .int v0_6, .int v0_7, .int 0, .int x1, .int v0_10]))]) hx hb hts hinX2 tyX2 tyX2_ok nmX2 hown hK hP hD hS 0 rfl rfl 9 (by decide) w_0 rfl rfl rfl rfl (Nat.le_of_ble_eq_true rfl) rfl dX2_blame_9 (fun H locs hP hD hS => ?_)
    refine lv_aload_n hx hb dX2_blame_12 rfl (lv_at hl 0 rfl) ?_
    refine lv_iload_n hx hb dX2_blame_13 rfl (lv_at hl 2 rfl) ?_
    refine k_put (D := (dC, dI)) (ci := 2) (v := .int x2) (C := RX2) (T := TX2) (N := 11) (ws' := [(a0, .inr (2, [.ref a0_0, .ref b0_1, .ref b0_2, .int v0_3, .int v0_4, .int v0_5, .int v0_6, .int v0_7, .int 0, .int x1, .int x2]))]) hx hb hts hinX2 tyX2 tyX2_ok nmX2 hown hK hP hD hS 0 rfl rfl 10 (by decide) w_1 rfl rfl rfl rfl (Nat.le_of_ble_eq_true rfl) rfl dX2_blame_14 (fun H locs hP hD hS => ?_)
    refine lv_aload_n hx hb dX2_blame_17 rfl (lv_at hl 0 rfl) ?_
    refine lv_sipush (v := 259) hx hb dX2_blame_18 (by decide +kernel) ?_
    refine k_put (D := (dC, dI)) (ci := 2) (v := .int 259) (C := RX2) (T := TX2) (N := 11) (ws' := [(a0, .inr (2, [.ref a0_0, .ref b0_1, .ref b0_2, .int v0_3, .int v0_4, .int v0_5, .int 259, .int v0_7, .int 0, .int x1, .int x2]))]) hx hb hts hinX2 tyX2 tyX2_ok nmX2 hown hK hP hD hS 0 rfl rfl 6 (by decide) w_2 rfl rfl rfl rfl (Nat.le_of_ble_eq_true rfl) rfl dX2_blame_21 (fun H locs hP hD hS => ?_)
    exact k_rv B hP hD hS dX2_blame_24 ((fun k9 => match k9 with | 0 => 259 | 1 => x1 | 2 => x2 | _ => 0), (fun _ => 0), (fun _ => (fun _ => 0)), (fun _ => (fun _ => 0)), (fun _ => 0)) [0] rfl rfl (Nat.le_of_ble_eq_true rfl) (Nat.le_of_ble_eq_true rfl) ⟨(show iR 259 259 259 from (iR_c (n := 259) (a := 259) (b := 259) (by decide +kernel) (by decide +kernel))), (show iR x1 1 6 from hx1), (show BL v0_6 v0_9 v0_10 x1 x2 259 x1 x2 from (Or.inl ⟨c_4, rfl, rfl, rfl⟩)), (show (0 : Int32) < v0_9 → (0 : Int32) < x1 from (fun _ => (i_ltf (iR_c (n := 0) (a := 0) (b := 0) (by decide +kernel) (by decide +kernel)) hx1 (by decide +kernel)))), (show (x1 = 0) ∨ ((259 = 259)) from (Or.inr rfl))⟩
set_option maxHeartbeats 8000000 in
set_option maxRecDepth 100000 in
theorem s_X2_ownIndex_v1 (l : Launch) (dC : Nat → ClassId) (dI : Nat → Nat → Nat) (cI cJ cZ cM : ClassId) (a0 : Nat) (x1 : Int64) (a0_0 : Nat) (a0_1 : Nat) (g0_1 : Nat → Int64) (b0_2 : Nat) (v0_3 : Int32) (v0_4 : Int32) (v0_5 : Int32) (v0_6 : Int32) (v0_7 : Int32) (v0_9 : Int32) (v0_10 : Int32) (hv0_3 : iR v0_3 0 1600) (hv0_4 : iR v0_4 0 1600) (hv0_5 : iR v0_5 0 1600) (hv0_6 : iR v0_6 0 324) (hv0_9 : iR v0_9 0 6) : k_Mi l yX2_ownIndex wsX2_ownIndex ({ frames := 1, cells := 0, slots := 0, locals := 40 }) (dC, dI) vwCl (tyy cI cJ cZ cM) [(a0, .inr (2, [.ref a0_0, .ref a0_1, .ref b0_2, .int v0_3, .int v0_4, .int v0_5, .int v0_6, .int v0_7, .int 0, .int v0_9, .int v0_10])), (a0_1, .inl (cJ, 25, .inr (.inl g0_1)))] [.ref a0, .long x1] 0 0 (fun (u9 : Unit) => [(a0, .inr (2, [.ref a0_0, .ref a0_1, .ref b0_2, .int v0_3, .int v0_4, .int v0_5, .int v0_6, .int v0_7, .int 0, .int v0_9, .int v0_10])), (a0_1, .inl (cJ, 25, .inr (.inl g0_1)))]) (fun (r9 : Int32) (u9 : Unit) => (iR r9 (-1) 24) ∧ (IX g0_1 x1 r9)) := by
  refine fun sz => k_enter (cc := cX2_ownIndex) (maxL := 4) (ret := some (.int)) (Qc := fun A => va_Qi (fun (r9 : Int32) (u9 : Unit) => (iR r9 (-1) 24) ∧ (IX g0_1 x1 r9)) (fun u => k_B (dC, dI) vwCl (tyy cI cJ cZ cM) A ((fun (u9 : Unit) => [(a0, .inr (2, [.ref a0_0, .ref a0_1, .ref b0_2, .int v0_3, .int v0_4, .int v0_5, .int v0_6, .int v0_7, .int 0, .int v0_9, .int v0_10])), (a0_1, .inl (cJ, 25, .inr (.inl g0_1)))]) u)) A) sz (by decide +kernel) rfl (Nat.le_of_ble_eq_true rfl) (fun p e s m args below meth c A ls H locs B hP hD hS hl => ?_)
  obtain ⟨hx, hb, hml, hown, hts, hr, hlk, hnm, hK, hA, hN, hC⟩ := id B
  have hown : s.vm.findClass RX2 = some m.cls := hown
  have hl : lv_has ls 4 [(0, .ref a0), (1, .long x1)] := hl
  have w_0 : (Cond.fieldLink RX2 9 "WishSea$Reader" "ownKeys" "[J").before args s = true := hts _ (List.mem_of_getElem? (i := 1) rfl)
  have hinX2 : ∀ w ∈ u_ws RX2 TX2 11, w ∈ wsX2_ownIndex := fun _ h => List.mem_cons_of_mem _ (List.mem_append_right _ h)
  refine lv_iconst (v := 0) hx hb dX2_ownIndex_0 (by decide +kernel) ?_
  have J_2 : ∀ (n_2 : Nat) (j2_L3 : Int32) (hj2_L3 : iR j2_L3 0 26) (p2_0 : ∀ j, j < j2_L3.toNatClampNeg → ¬ g0_1 j = x1) (hm_2 : (26 - j2_L3.toInt).toNat < n_2) (H : Heap) (locs : List Loc) (ls : Array Slot), va_P (dC, dI) vwCl [(a0, .inr (2, [.ref a0_0, .ref a0_1, .ref b0_2, .int v0_3, .int v0_4, .int v0_5, .int v0_6, .int v0_7, .int 0, .int v0_9, .int v0_10])), (a0_1, .inl (cJ, 25, .inr (.inl g0_1)))] H → va_D A [(a0, .inr (2, [.ref a0_0, .ref a0_1, .ref b0_2, .int v0_3, .int v0_4, .int v0_5, .int v0_6, .int v0_7, .int 0, .int v0_9, .int v0_10])), (a0_1, .inl (cJ, 25, .inr (.inl g0_1)))] → va_S A s.heap H locs → lv_has ls 4 [(0, .ref a0), (1, .long x1), (3, .int j2_L3)] → W p l e ({ frames := 1, cells := 0, slots := 0, locals := 40 }) s m args below meth c H locs 0 0 (MQ below (va_Qi (fun (r9 : Int32) (u9 : Unit) => (iR r9 (-1) 24) ∧ (IX g0_1 x1 r9)) (fun u => k_B (dC, dI) vwCl (tyy cI cJ cZ cM) A ((fun (u9 : Unit) => [(a0, .inr (2, [.ref a0_0, .ref a0_1, .ref b0_2, .int v0_3, .int v0_4, .int v0_5, .int v0_6, .int v0_7, .int 0, .int v0_9, .int v0_10])), (a0_1, .inl (cJ, 25, .inr (.inl g0_1)))]) u)) A) args s 0 0 A) (F0 m 2 ls []) := by
    intro n_2
    induction n_2 with
    | zero => intro j2_L3 hj2_L3 p2_0 hm_2; exact absurd hm_2 (Nat.not_lt_zero _)
    | succ n_2 ih_2 =>
      intro j2_L3 hj2_L3 p2_0 hm_2 H locs ls hP hD hS hl
      refine lv_iload_n hx hb dX2_ownIndex_2 rfl (lv_at hl 2 rfl) ?_
      refine lv_aload_n hx hb dX2_ownIndex_3 rfl (lv_at hl 0 rfl) ?_
      refine k_get (D := (dC, dI)) (ci := 2) (v := .ref a0_1) (C := RX2) (T := TX2) (N := 11) hx hb hts hinX2 hown hK hP 0 rfl rfl 1 (by decide) w_0 rfl rfl dX2_ownIndex_4 ?_
      refine va_alen (v := 25) hx hb hK hP 1 1 rfl rfl rfl dX2_ownIndex_7 ?_
      refine lv_icmp_ge (tgt := 30) hx hb dX2_ownIndex_8 (by decide) (fun c_8 => ?_) (fun c_8 => ?_)
      · have c_8 : 25 ≤ j2_L3 := c_8
        have f_30_1 : iR j2_L3 25 26 := iR_leR c_8 (iR_c (n := 25) (a := 25) (b := 25) (by decide +kernel) (by decide +kernel)) hj2_L3 (by decide +kernel)
        refine lv_iconst (v := (-1)) hx hb dX2_ownIndex_30 (by decide +kernel) ?_
        exact k_ri B hP hD hS dX2_ownIndex_31 () [0, 1] rfl rfl rfl (Nat.le_of_ble_eq_true rfl) (Nat.le_of_ble_eq_true rfl) ⟨(show iR (-1) (-1) 24 from (iR_c (n := (-1)) (a := (-1)) (b := 24) (by decide +kernel) (by decide +kernel))), (show IX g0_1 x1 (-1) from (Or.inl ⟨rfl, fun j hj => p2_0 j (Nat.lt_of_lt_of_le hj (i_geL c_8 f_30_1 (by decide +kernel)))⟩))⟩
      · have c_8 : j2_L3 < 25 := i_nle c_8
        have f_11_1 : iR j2_L3 0 24 := iR_ltL c_8 hj2_L3 (iR_c (n := 25) (a := 25) (b := 25) (by decide +kernel) (by decide +kernel)) (by decide +kernel)
        refine lv_aload_n hx hb dX2_ownIndex_11 rfl (lv_at hl 0 rfl) ?_
        refine k_get (D := (dC, dI)) (ci := 2) (v := .ref a0_1) (C := RX2) (T := TX2) (N := 11) hx hb hts hinX2 hown hK hP 0 rfl rfl 1 (by decide) w_0 rfl rfl dX2_ownIndex_12 ?_
        refine lv_iload_n hx hb dX2_ownIndex_15 rfl (lv_at hl 2 rfl) ?_
        refine va_lald hx hb hK hP 1 1 rfl rfl (iR_vp f_11_1 (by decide +kernel)) dX2_ownIndex_16 ?_
        refine lv_lload_n hx hb dX2_ownIndex_17 rfl (lv_at hl 1 rfl) ?_
        refine W.lcmp hx hb dX2_ownIndex_18 ?_
        refine lv_topi (fun y_18 ey_18 => ?_)
        refine lv_if_ne (tgt := 24) hx hb dX2_ownIndex_19 (by decide) (fun c_19 => ?_) (fun c_19 => ?_)
        · have c_19 : ¬ y_18 = 0 := c_19
          have lc_19 : ¬ (g0_1 j2_L3.toNatClampNeg) = x1 := l_cmpne ey_18 c_19
          obtain ⟨y_24, ey_24⟩ : ∃ y : Int32, y = j2_L3 + 1 := ⟨_, rfl⟩
          refine lv_iinc (v := y_24) (lv' := [(3, .int y_24), (0, .ref a0), (1, .long x1)]) hx hb dX2_ownIndex_24 hl (k := 2) rfl ey_24.symm (by decide) rfl (fun ls hl => ?_)
          have f_24_2 : iR y_24 1 25 := iR_add ey_24 f_11_1 (iR_c (n := 1) (a := 1) (b := 1) (by decide +kernel) (by decide +kernel)) (by decide +kernel)
          refine lv_goto (tgt := 2) hx hb dX2_ownIndex_27 (by decide) ?_
          exact ih_2 y_24 (iR_w f_24_2 (by decide +kernel)) (show ∀ j, j < y_24.toNatClampNeg → ¬ g0_1 j = x1 from (by rw [i_succ ey_24 f_11_1 (by decide +kernel)]; exact ix_s p2_0 lc_19)) (m_up (B := 26) hm_2 ey_24 f_11_1 (by decide +kernel)) H locs ls hP hD hS (lv_sub hl [1, 2, 0] rfl)
        · have c_19 : y_18 = 0 := c_19
          have f_22_2 : iR y_18 0 0 := iR_eqL c_19 (iR_top _) (iR_c (n := 0) (a := 0) (b := 0) (by decide +kernel) (by decide +kernel)) (by decide +kernel)
          have lc_19 : (g0_1 j2_L3.toNatClampNeg) = x1 := l_cmpe ey_18 c_19
          refine lv_iload_n hx hb dX2_ownIndex_22 rfl (lv_at hl 2 rfl) ?_
          exact k_ri B hP hD hS dX2_ownIndex_23 () [0, 1] rfl rfl rfl (Nat.le_of_ble_eq_true rfl) (Nat.le_of_ble_eq_true rfl) ⟨(show iR j2_L3 (-1) 24 from (iR_w f_11_1 (by decide +kernel))), (show IX g0_1 x1 j2_L3 from (Or.inr ⟨(i_lef (iR_c (n := 0) (a := 0) (b := 0) (by decide +kernel) (by decide +kernel)) f_11_1 (by decide +kernel)), i_ltL c_8 f_11_1 (by decide +kernel), lc_19, p2_0⟩))⟩
  refine lv_istore_n (lv' := [(3, .int 0), (0, .ref a0), (1, .long x1)]) hx hb dX2_ownIndex_1 rfl hl (by decide) rfl (fun ls hl => ?_)
  exact J_2 _ 0 (iR_c (n := 0) (a := 0) (b := 26) (by decide +kernel) (by decide +kernel)) (show ∀ j, j < 0 → ¬ g0_1 j = x1 from (fun j hj => absurd hj (Nat.not_lt_zero _))) (Nat.lt_succ_self _) H locs ls hP hD hS (lv_sub hl [1, 2, 0] rfl)
set_option maxHeartbeats 8000000 in
set_option maxRecDepth 100000 in
theorem s_X2_blame_v2 (l : Launch) (dC : Nat → ClassId) (dI : Nat → Nat → Nat) (cI cJ cZ cM : ClassId) (a0 : Nat) (x1 : Int32) (x2 : Int32) (a0_0 : Nat) (a0_1 : Nat) (b0_2 : Nat) (v0_3 : Int32) (v0_4 : Int32) (v0_5 : Int32) (v0_6 : Int32) (v0_7 : Int32) (v0_9 : Int32) (v0_10 : Int32) (hx1 : iR x1 1 6) (hv0_3 : iR v0_3 0 1600) (hv0_4 : iR v0_4 0 1600) (hv0_5 : iR v0_5 0 1600) (hv0_6 : iR v0_6 0 324) (hv0_9 : iR v0_9 0 6) (hpg0 : (v0_9 = 0) ∨ ((v0_6 = 259))) : k_Mv l yX2_blame wsX2_blame ({ frames := 1, cells := 0, slots := 0, locals := 40 }) (dC, dI) vwCl (tyy cI cJ cZ cM) [(a0, .inr (2, [.ref a0_0, .ref a0_1, .ref b0_2, .int v0_3, .int v0_4, .int v0_5, .int v0_6, .int v0_7, .int 0, .int v0_9, .int v0_10]))] [.ref a0, .int x1, .int x2] 0 0 (fun (u9 : SU) => [(a0, .inr (2, [.ref a0_0, .ref a0_1, .ref b0_2, .int v0_3, .int v0_4, .int v0_5, .int (u9.1 0), .int v0_7, .int 0, .int (u9.1 1), .int (u9.1 2)]))]) (fun (u9 : SU) => (iR (u9.1 0) 259 259) ∧ (iR (u9.1 1) 1 6) ∧ (BL v0_6 v0_9 v0_10 x1 x2 (u9.1 0) (u9.1 1) (u9.1 2)) ∧ ((0 : Int32) < v0_9 → (0 : Int32) < (u9.1 1)) ∧ (((u9.1 1) = 0) ∨ (((u9.1 0) = 259)))) := by
  refine fun sz => k_enter (cc := cX2_blame) (maxL := 3) (ret := none) (Qc := fun A => va_Qv (fun (u9 : SU) => (iR (u9.1 0) 259 259) ∧ (iR (u9.1 1) 1 6) ∧ (BL v0_6 v0_9 v0_10 x1 x2 (u9.1 0) (u9.1 1) (u9.1 2)) ∧ ((0 : Int32) < v0_9 → (0 : Int32) < (u9.1 1)) ∧ (((u9.1 1) = 0) ∨ (((u9.1 0) = 259)))) (fun u => k_B (dC, dI) vwCl (tyy cI cJ cZ cM) A ((fun (u9 : SU) => [(a0, .inr (2, [.ref a0_0, .ref a0_1, .ref b0_2, .int v0_3, .int v0_4, .int v0_5, .int (u9.1 0), .int v0_7, .int 0, .int (u9.1 1), .int (u9.1 2)]))]) u)) A) sz (by decide +kernel) rfl (Nat.le_of_ble_eq_true rfl) (fun p e s m args below meth c A ls H locs B hP hD hS hl => ?_)
  obtain ⟨hx, hb, hml, hown, hts, hr, hlk, hnm, hK, hA, hN, hC⟩ := id B
  have hown : s.vm.findClass RX2 = some m.cls := hown
  have hl : lv_has ls 3 [(0, .ref a0), (1, .int x1), (2, .int x2)] := hl
  have w_0 : (Cond.fieldLink RX2 63 "WishSea$Reader" "fault" "I").before args s = true := hts _ (List.mem_of_getElem? (i := 1) rfl)
  have w_1 : (Cond.fieldLink RX2 19 "WishSea$Reader" "place" "I").before args s = true := hts _ (List.mem_of_getElem? (i := 2) rfl)
  have w_2 : (Cond.fieldLink RX2 15 "WishSea$Reader" "token" "I").before args s = true := hts _ (List.mem_of_getElem? (i := 3) rfl)
  have hinX2 : ∀ w ∈ u_ws RX2 TX2 11, w ∈ wsX2_blame := fun _ h => List.mem_cons_of_mem _ (List.mem_append_right _ h)
  refine lv_aload_n hx hb dX2_blame_0 rfl (lv_at hl 0 rfl) ?_
  refine k_get (D := (dC, dI)) (ci := 2) (v := .int v0_9) (C := RX2) (T := TX2) (N := 11) hx hb hts hinX2 hown hK hP 0 rfl rfl 9 (by decide) w_0 rfl rfl dX2_blame_1 ?_
  refine lv_if_ne (tgt := 24) hx hb dX2_blame_4 (by decide) (fun c_4 => ?_) (fun c_4 => ?_)
  · have c_4 : ¬ v0_9 = 0 := c_4
    have f_24_1 : iR v0_9 1 6 := iR_neL c_4 hv0_9 (iR_c (n := 0) (a := 0) (b := 0) (by decide +kernel) (by decide +kernel)) (by decide +kernel)
    obtain d_4_1_0 := hpg0.resolve_left c_4
    have f_24_2 : iR v0_6 259 259 := iR_eqL d_4_1_0 hv0_6 (iR_c (n := 259) (a := 259) (b := 259) (by decide +kernel) (by decide +kernel)) (by decide +kernel)
    exact k_rv B hP hD hS dX2_blame_24 ((fun k9 => match k9 with | 0 => v0_6 | 1 => v0_9 | 2 => v0_10 | _ => 0), (fun _ => 0), (fun _ => (fun _ => 0)), (fun _ => (fun _ => 0)), (fun _ => 0)) [0] rfl rfl (Nat.le_of_ble_eq_true rfl) (Nat.le_of_ble_eq_true rfl) ⟨(show iR v0_6 259 259 from f_24_2), (show iR v0_9 1 6 from f_24_1), (show BL v0_6 v0_9 v0_10 x1 x2 v0_6 v0_9 v0_10 from (Or.inr ⟨c_4, rfl, rfl, rfl⟩)), (show (0 : Int32) < v0_9 → (0 : Int32) < v0_9 from (fun h => h)), (show (v0_9 = 0) ∨ ((v0_6 = 259)) from (Or.inr d_4_1_0))⟩
  · have c_4 : v0_9 = 0 := c_4
    have f_7_1 : iR v0_9 0 0 := iR_eqL c_4 hv0_9 (iR_c (n := 0) (a := 0) (b := 0) (by decide +kernel) (by decide +kernel)) (by decide +kernel)
    refine lv_aload_n hx hb dX2_blame_7 rfl (lv_at hl 0 rfl) ?_
    refine lv_iload_n hx hb dX2_blame_8 rfl (lv_at hl 1 rfl) ?_
    refine k_put (D := (dC, dI)) (ci := 2) (v := .int x1) (C := RX2) (T := TX2) (N := 11) (ws' := [(a0, .inr (2, [.ref a0_0, .ref a0_1, .ref b0_2, .int v0_3, .int v0_4, .int v0_5, .int v0_6, .int v0_7, .int 0, .int x1, .int v0_10]))]) hx hb hts hinX2 tyX2 tyX2_ok nmX2 hown hK hP hD hS 0 rfl rfl 9 (by decide) w_0 rfl rfl rfl rfl (Nat.le_of_ble_eq_true rfl) rfl dX2_blame_9 (fun H locs hP hD hS => ?_)
    refine lv_aload_n hx hb dX2_blame_12 rfl (lv_at hl 0 rfl) ?_
    refine lv_iload_n hx hb dX2_blame_13 rfl (lv_at hl 2 rfl) ?_
    refine k_put (D := (dC, dI)) (ci := 2) (v := .int x2) (C := RX2) (T := TX2) (N := 11) (ws' := [(a0, .inr (2, [.ref a0_0, .ref a0_1, .ref b0_2, .int v0_3, .int v0_4, .int v0_5, .int v0_6, .int v0_7, .int 0, .int x1, .int x2]))]) hx hb hts hinX2 tyX2 tyX2_ok nmX2 hown hK hP hD hS 0 rfl rfl 10 (by decide) w_1 rfl rfl rfl rfl (Nat.le_of_ble_eq_true rfl) rfl dX2_blame_14 (fun H locs hP hD hS => ?_)
    refine lv_aload_n hx hb dX2_blame_17 rfl (lv_at hl 0 rfl) ?_
    refine lv_sipush (v := 259) hx hb dX2_blame_18 (by decide +kernel) ?_
    refine k_put (D := (dC, dI)) (ci := 2) (v := .int 259) (C := RX2) (T := TX2) (N := 11) (ws' := [(a0, .inr (2, [.ref a0_0, .ref a0_1, .ref b0_2, .int v0_3, .int v0_4, .int v0_5, .int 259, .int v0_7, .int 0, .int x1, .int x2]))]) hx hb hts hinX2 tyX2 tyX2_ok nmX2 hown hK hP hD hS 0 rfl rfl 6 (by decide) w_2 rfl rfl rfl rfl (Nat.le_of_ble_eq_true rfl) rfl dX2_blame_21 (fun H locs hP hD hS => ?_)
    exact k_rv B hP hD hS dX2_blame_24 ((fun k9 => match k9 with | 0 => 259 | 1 => x1 | 2 => x2 | _ => 0), (fun _ => 0), (fun _ => (fun _ => 0)), (fun _ => (fun _ => 0)), (fun _ => 0)) [0] rfl rfl (Nat.le_of_ble_eq_true rfl) (Nat.le_of_ble_eq_true rfl) ⟨(show iR 259 259 259 from (iR_c (n := 259) (a := 259) (b := 259) (by decide +kernel) (by decide +kernel))), (show iR x1 1 6 from hx1), (show BL v0_6 v0_9 v0_10 x1 x2 259 x1 x2 from (Or.inl ⟨c_4, rfl, rfl, rfl⟩)), (show (0 : Int32) < v0_9 → (0 : Int32) < x1 from (fun _ => (i_ltf (iR_c (n := 0) (a := 0) (b := 0) (by decide +kernel) (by decide +kernel)) hx1 (by decide +kernel)))), (show (x1 = 0) ∨ ((259 = 259)) from (Or.inr rfl))⟩
set_option maxHeartbeats 8000000 in
set_option maxRecDepth 100000 in
theorem s_X2_readNumber_v1 (l : Launch) (dC : Nat → ClassId) (dI : Nat → Nat → Nat) (cI cJ cZ cM : ClassId) (a0 : Nat) (a0_0 : Nat) (f0_0 : Nat → Int32) (a0_1 : Nat) (b0_2 : Nat) (v0_3 : Int32) (v0_4 : Int32) (v0_5 : Int32) (v0_6 : Int32) (v0_7 : Int32) (v0_9 : Int32) (v0_10 : Int32) (hxv0_9 : iR v0_9 0 0) (hv0_3 : iR v0_3 0 1600) (hv0_4 : iR v0_4 0 1600) (hv0_5 : iR v0_5 0 1600) (hv0_6 : iR v0_6 0 324) (hv0_9 : iR v0_9 0 6) (hf0_0 : aR f0_0 0 255) (hpg0 : (v0_9 = 0) ∨ ((v0_6 = 259))) (hr0 : v0_5 = v0_4) : k_Mv l yX2_readNumber wsX2_readNumber ({ frames := 2, cells := 0, slots := 0, locals := 62 }) (dC, dI) vwCl (tyy cI cJ cZ cM) [(a0, .inr (2, [.ref a0_0, .ref a0_1, .ref b0_2, .int v0_3, .int v0_4, .int v0_5, .int v0_6, .int v0_7, .int 0, .int v0_9, .int v0_10])), (a0_0, .inl (cI, 1600, .inl f0_0))] [.ref a0] 0 0 (fun (u9 : SU) => [(a0, .inr (2, [.ref a0_0, .ref a0_1, .ref b0_2, .int v0_3, .int (u9.1 0), .int v0_5, .int (u9.1 1), .int (u9.1 2), .int 0, .int (u9.1 3), .int (u9.1 4)])), (a0_0, .inl (cI, 1600, .inl f0_0))]) (fun (u9 : SU) => (iR (u9.1 0) 0 1600) ∧ (iR (u9.1 1) 257 259) ∧ (iR (u9.1 3) 0 6) ∧ (XN f0_0 v0_3.toNatClampNeg v0_5 v0_7 v0_10 (u9.1 0) (u9.1 1) (u9.1 2) (u9.1 3) (u9.1 4)) ∧ ((0 : Int32) < v0_9 → (0 : Int32) < (u9.1 3)) ∧ (((u9.1 3) = 0) ∨ (((u9.1 1) = 259)))) := by
  refine fun sz => k_enter (cc := cX2_readNumber) (maxL := 2) (ret := none) (Qc := fun A => va_Qv (fun (u9 : SU) => (iR (u9.1 0) 0 1600) ∧ (iR (u9.1 1) 257 259) ∧ (iR (u9.1 3) 0 6) ∧ (XN f0_0 v0_3.toNatClampNeg v0_5 v0_7 v0_10 (u9.1 0) (u9.1 1) (u9.1 2) (u9.1 3) (u9.1 4)) ∧ ((0 : Int32) < v0_9 → (0 : Int32) < (u9.1 3)) ∧ (((u9.1 3) = 0) ∨ (((u9.1 1) = 259)))) (fun u => k_B (dC, dI) vwCl (tyy cI cJ cZ cM) A ((fun (u9 : SU) => [(a0, .inr (2, [.ref a0_0, .ref a0_1, .ref b0_2, .int v0_3, .int (u9.1 0), .int v0_5, .int (u9.1 1), .int (u9.1 2), .int 0, .int (u9.1 3), .int (u9.1 4)])), (a0_0, .inl (cI, 1600, .inl f0_0))]) u)) A) sz (by decide +kernel) rfl (Nat.le_of_ble_eq_true rfl) (fun p e s m args below meth c A ls H locs B hP hD hS hl => ?_)
  obtain ⟨hx, hb, hml, hown, hts, hr, hlk, hnm, hK, hA, hN, hC⟩ := id B
  have hown : s.vm.findClass RX2 = some m.cls := hown
  have hl : lv_has ls 2 [(0, .ref a0)] := hl
  have w_0 : (Cond.fieldLink RX2 57 "WishSea$Reader" "position" "I").before args s = true := hts _ (List.mem_of_getElem? (i := 1) rfl)
  have w_1 : (Cond.fieldLink RX2 55 "WishSea$Reader" "length" "I").before args s = true := hts _ (List.mem_of_getElem? (i := 2) rfl)
  have w_2 : (Cond.fieldLink RX2 73 "WishSea$Reader" "start" "I").before args s = true := hts _ (List.mem_of_getElem? (i := 4) rfl)
  have w_3 : (Cond.fieldLink RX2 15 "WishSea$Reader" "token" "I").before args s = true := hts _ (List.mem_of_getElem? (i := 5) rfl)
  have w_4 : (Cond.fieldLink RX2 172 "WishSea$Reader" "value" "I").before args s = true := hts _ (List.mem_of_getElem? (i := 6) rfl)
  have w_5 : (Cond.fieldLink RX2 22 "WishSea$Reader" "text" "[I").before args s = true := hts _ (List.mem_of_getElem? (i := 3) rfl)
  have hinX2 : ∀ w ∈ u_ws RX2 TX2 11, w ∈ wsX2_readNumber := fun _ h => List.mem_cons_of_mem _ (List.mem_append_right _ h)
  refine lv_iconst (v := 0) hx hb dX2_readNumber_0 (by decide +kernel) ?_
  have J_2 : ∀ (n_2 : Nat) (j2_F0_4 : Int32) (j2_L1 : Int32) (hj2_F0_4 : iR j2_F0_4 0 1600) (v2_0 : v0_5 ≤ j2_F0_4) (p2_0 : rn cD f0_0 v0_3.toNatClampNeg j2_F0_4.toNatClampNeg = rn cD f0_0 v0_3.toNatClampNeg v0_5.toNatClampNeg) (p2_1 : fN f0_0 v0_3.toNatClampNeg (j2_F0_4.toNatClampNeg - v0_5.toNatClampNeg) j2_F0_4.toNatClampNeg j2_L1 = fN f0_0 v0_3.toNatClampNeg 0 v0_5.toNatClampNeg 0) (hm_2 : (1600 - j2_F0_4.toInt).toNat < n_2) (H : Heap) (locs : List Loc) (ls : Array Slot), va_P (dC, dI) vwCl [(a0, .inr (2, [.ref a0_0, .ref a0_1, .ref b0_2, .int v0_3, .int j2_F0_4, .int v0_5, .int v0_6, .int v0_7, .int 0, .int v0_9, .int v0_10])), (a0_0, .inl (cI, 1600, .inl f0_0))] H → va_D A [(a0, .inr (2, [.ref a0_0, .ref a0_1, .ref b0_2, .int v0_3, .int j2_F0_4, .int v0_5, .int v0_6, .int v0_7, .int 0, .int v0_9, .int v0_10])), (a0_0, .inl (cI, 1600, .inl f0_0))] → va_S A s.heap H locs → lv_has ls 2 [(0, .ref a0), (1, .int j2_L1)] → W p l e ({ frames := 2, cells := 0, slots := 0, locals := 62 }) s m args below meth c H locs 0 0 (MQ below (va_Qv (fun (u9 : SU) => (iR (u9.1 0) 0 1600) ∧ (iR (u9.1 1) 257 259) ∧ (iR (u9.1 3) 0 6) ∧ (XN f0_0 v0_3.toNatClampNeg v0_5 v0_7 v0_10 (u9.1 0) (u9.1 1) (u9.1 2) (u9.1 3) (u9.1 4)) ∧ ((0 : Int32) < v0_9 → (0 : Int32) < (u9.1 3)) ∧ (((u9.1 3) = 0) ∨ (((u9.1 1) = 259)))) (fun u => k_B (dC, dI) vwCl (tyy cI cJ cZ cM) A ((fun (u9 : SU) => [(a0, .inr (2, [.ref a0_0, .ref a0_1, .ref b0_2, .int v0_3, .int (u9.1 0), .int v0_5, .int (u9.1 1), .int (u9.1 2), .int 0, .int (u9.1 3), .int (u9.1 4)])), (a0_0, .inl (cI, 1600, .inl f0_0))]) u)) A) args s 0 0 A) (F0 m 2 ls []) := by
    intro n_2
    induction n_2 with
    | zero => intro j2_F0_4 j2_L1 hj2_F0_4 v2_0 p2_0 p2_1 hm_2; exact absurd hm_2 (Nat.not_lt_zero _)
    | succ n_2 ih_2 =>
      intro j2_F0_4 j2_L1 hj2_F0_4 v2_0 p2_0 p2_1 hm_2 H locs ls hP hD hS hl
      refine lv_aload_n hx hb dX2_readNumber_2 rfl (lv_at hl 0 rfl) ?_
      refine k_get (D := (dC, dI)) (ci := 2) (v := .int j2_F0_4) (C := RX2) (T := TX2) (N := 11) hx hb hts hinX2 hown hK hP 0 rfl rfl 4 (by decide) w_0 rfl rfl dX2_readNumber_3 ?_
      refine lv_aload_n hx hb dX2_readNumber_6 rfl (lv_at hl 0 rfl) ?_
      refine k_get (D := (dC, dI)) (ci := 2) (v := .int v0_3) (C := RX2) (T := TX2) (N := 11) hx hb hts hinX2 hown hK hP 0 rfl rfl 3 (by decide) w_1 rfl rfl dX2_readNumber_7 ?_
      refine lv_icmp_ge (tgt := 72) hx hb dX2_readNumber_10 (by decide) (fun c_10 => ?_) (fun c_10 => ?_)
      · have c_10 : v0_3 ≤ j2_F0_4 := c_10
        refine lv_aload_n hx hb dX2_readNumber_72 rfl (lv_at hl 0 rfl) ?_
        refine k_get (D := (dC, dI)) (ci := 2) (v := .int j2_F0_4) (C := RX2) (T := TX2) (N := 11) hx hb hts hinX2 hown hK hP 0 rfl rfl 4 (by decide) w_0 rfl rfl dX2_readNumber_73 ?_
        refine lv_aload_n hx hb dX2_readNumber_76 rfl (lv_at hl 0 rfl) ?_
        refine k_get (D := (dC, dI)) (ci := 2) (v := .int v0_5) (C := RX2) (T := TX2) (N := 11) hx hb hts hinX2 hown hK hP 0 rfl rfl 5 (by decide) w_2 rfl rfl dX2_readNumber_77 ?_
        refine lv_isub hx hb dX2_readNumber_80 ?_
        refine lv_topi (fun y_80p10 ey_80p10 => ?_)
        have xy_80p10 : y_80p10.toInt = j2_F0_4.toInt - v0_5.toInt := i_sub ey_80p10 hj2_F0_4 hv0_5 (by decide +kernel)
        have f_80p10_1 : iR y_80p10 0 1600 := iR_subge ey_80p10 v2_0 hj2_F0_4 hv0_5 (by decide +kernel)
        refine lv_iconst (v := 4) hx hb dX2_readNumber_81 (by decide +kernel) ?_
        refine lv_icmp_le (tgt := 99) hx hb dX2_readNumber_82 (by decide) (fun c_82p10 => ?_) (fun c_82p10 => ?_)
        · have c_82p10 : y_80p10 ≤ 4 := c_82p10
          have f_99p10_2 : iR y_80p10 0 4 := iR_leL c_82p10 f_80p10_1 (iR_c (n := 4) (a := 4) (b := 4) (by decide +kernel) (by decide +kernel)) (by decide +kernel)
          refine lv_aload_n hx hb dX2_readNumber_99 rfl (lv_at hl 0 rfl) ?_
          refine lv_sipush (v := 257) hx hb dX2_readNumber_100 (by decide +kernel) ?_
          refine k_put (D := (dC, dI)) (ci := 2) (v := .int 257) (C := RX2) (T := TX2) (N := 11) (ws' := [(a0, .inr (2, [.ref a0_0, .ref a0_1, .ref b0_2, .int v0_3, .int j2_F0_4, .int v0_5, .int 257, .int v0_7, .int 0, .int v0_9, .int v0_10])), (a0_0, .inl (cI, 1600, .inl f0_0))]) hx hb hts hinX2 tyX2 tyX2_ok nmX2 hown hK hP hD hS 0 rfl rfl 6 (by decide) w_3 rfl rfl rfl rfl (Nat.le_of_ble_eq_true rfl) rfl dX2_readNumber_103 (fun H locs hP hD hS => ?_)
          refine lv_aload_n hx hb dX2_readNumber_106 rfl (lv_at hl 0 rfl) ?_
          refine lv_iload_n hx hb dX2_readNumber_107 rfl (lv_at hl 1 rfl) ?_
          refine k_put (D := (dC, dI)) (ci := 2) (v := .int j2_L1) (C := RX2) (T := TX2) (N := 11) (ws' := [(a0, .inr (2, [.ref a0_0, .ref a0_1, .ref b0_2, .int v0_3, .int j2_F0_4, .int v0_5, .int 257, .int j2_L1, .int 0, .int v0_9, .int v0_10])), (a0_0, .inl (cI, 1600, .inl f0_0))]) hx hb hts hinX2 tyX2 tyX2_ok nmX2 hown hK hP hD hS 0 rfl rfl 7 (by decide) w_4 rfl rfl rfl rfl (Nat.le_of_ble_eq_true rfl) rfl dX2_readNumber_108 (fun H locs hP hD hS => ?_)
          exact k_rv B hP hD hS dX2_readNumber_111 ((fun k9 => match k9 with | 0 => j2_F0_4 | 1 => 257 | 2 => j2_L1 | 3 => v0_9 | 4 => v0_10 | _ => 0), (fun _ => 0), (fun _ => (fun _ => 0)), (fun _ => (fun _ => 0)), (fun _ => 0)) [0, 1] rfl rfl (Nat.le_of_ble_eq_true rfl) (Nat.le_of_ble_eq_true rfl) ⟨(show iR j2_F0_4 0 1600 from hj2_F0_4), (show iR 257 257 259 from (iR_c (n := 257) (a := 257) (b := 259) (by decide +kernel) (by decide +kernel))), (show iR v0_9 0 6 from (iR_w hxv0_9 (by decide +kernel))), (show XN f0_0 v0_3.toNatClampNeg v0_5 v0_7 v0_10 j2_F0_4 257 j2_L1 v0_9 v0_10 from ⟨((rn_e (Or.inl (i_leN c_10 hv0_3 hj2_F0_4 (by decide +kernel)))).symm.trans p2_0), Or.inr ⟨(by rw [← (i_subN ey_80p10 v2_0 hj2_F0_4 hv0_5 (by decide +kernel))]; exact i_leL9 c_82p10 f_99p10_2 (by decide +kernel)), rfl, ((fN_e (Or.inl (i_leN c_10 hv0_3 hj2_F0_4 (by decide +kernel)))).symm.trans p2_1), (i_eqc hxv0_9 (iR_c (n := 0) (a := 0) (b := 0) (by decide +kernel) (by decide +kernel))), rfl⟩⟩), (show (0 : Int32) < v0_9 → (0 : Int32) < v0_9 from (fun h => h)), (show (v0_9 = 0) ∨ ((257 = 259)) from (Or.inl (i_eqc hxv0_9 (iR_c (n := 0) (a := 0) (b := 0) (by decide +kernel) (by decide +kernel)))))⟩
        · have c_82p10 : 4 < y_80p10 := i_nle c_82p10
          have f_85p10_2 : iR y_80p10 5 1600 := iR_ltR c_82p10 (iR_c (n := 4) (a := 4) (b := 4) (by decide +kernel) (by decide +kernel)) f_80p10_1 (by decide +kernel)
          refine lv_aload_n hx hb dX2_readNumber_85 rfl (lv_at hl 0 rfl) ?_
          refine lv_iconst (v := 1) hx hb dX2_readNumber_86 (by decide +kernel) ?_
          refine lv_aload_n hx hb dX2_readNumber_87 rfl (lv_at hl 0 rfl) ?_
          refine k_get (D := (dC, dI)) (ci := 2) (v := .int v0_5) (C := RX2) (T := TX2) (N := 11) hx hb hts hinX2 hown hK hP 0 rfl rfl 5 (by decide) w_2 rfl rfl dX2_readNumber_88 ?_
          refine lv_iconst (v := 4) hx hb dX2_readNumber_91 (by decide +kernel) ?_
          refine lv_iadd hx hb dX2_readNumber_92 ?_
          refine lv_topi (fun y_92p10 ey_92p10 => ?_)
          have xy_92p10 : y_92p10.toInt = v0_5.toInt + 4 := i_add ey_92p10 hv0_5 (iR_c (n := 4) (a := 4) (b := 4) (by decide +kernel) (by decide +kernel)) (by decide +kernel)
          have f_92p10_3 : iR y_92p10 4 1604 := iR_add ey_92p10 hv0_5 (iR_c (n := 4) (a := 4) (b := 4) (by decide +kernel) (by decide +kernel)) (by decide +kernel)
          refine k_cv (wc := [(a0, .inr (2, [.ref a0_0, .ref a0_1, .ref b0_2, .int v0_3, .int j2_F0_4, .int v0_5, .int v0_6, .int v0_7, .int 0, .int v0_9, .int v0_10]))]) (wr := [(a0_0, .inl (cI, 1600, .inl f0_0))]) (fun hPc hDc hFc => va_runV (As := [.int 1, .int y_92p10]) (rest := []) ⟨hx, hb, hml, hown, hts⟩ (s_X2_blame_v1 l dC dI cI cJ cZ cM a0 1 y_92p10 a0_0 a0_1 b0_2 v0_3 j2_F0_4 v0_5 v0_6 v0_7 v0_9 v0_10 (iR_c (n := 1) (a := 1) (b := 6) (by decide +kernel) (by decide +kernel)) hv0_3 hj2_F0_4 hv0_5 hv0_6 (iR_w hxv0_9 (by decide +kernel)) hpg0 H.size) (cwV 2 hts gX2_readNumber_X2_blame rfl rfl rfl (by decide +kernel) ⟨(Nat.le_of_ble_eq_true rfl), (Nat.le_of_ble_eq_true rfl)⟩) (k_pV hPc hDc hK hN hC hS hFc hP (q0 := 0) (ci := 2) rfl rfl) rfl rfl hl.1 rfl (lv_room (Nat.le_of_ble_eq_true rfl)) dX2_readNumber_93 ⟨(Nat.le_of_ble_eq_true rfl), (Nat.le_of_ble_eq_true rfl)⟩) hP hD hS hA [0] [1] rfl rfl rfl rfl (by decide) (fun _ => rfl) 0 0 rfl rfl (fun u_93p10 H locs hw hP hD hS => ?_)
          obtain ⟨g_93p10_0, g_93p10_1, g_93p10_2, g_93p10_3, g_93p10_4⟩ := hw
          have hP : va_P (dC, dI) vwCl [(a0_0, .inl (cI, 1600, .inl f0_0)), (a0, .inr (2, [.ref a0_0, .ref a0_1, .ref b0_2, .int v0_3, .int j2_F0_4, .int v0_5, .int (u_93p10.1 0), .int v0_7, .int 0, .int (u_93p10.1 1), .int (u_93p10.1 2)]))] H := hP
          have hD : va_D A [(a0_0, .inl (cI, 1600, .inl f0_0)), (a0, .inr (2, [.ref a0_0, .ref a0_1, .ref b0_2, .int v0_3, .int j2_F0_4, .int v0_5, .int (u_93p10.1 0), .int v0_7, .int 0, .int (u_93p10.1 1), .int (u_93p10.1 2)]))] := hD
          have g_93p10_2 : BL v0_6 v0_9 v0_10 1 y_92p10 (u_93p10.1 0) (u_93p10.1 1) (u_93p10.1 2) := g_93p10_2
          have g_93p10_3 : (0 : Int32) < v0_9 → (0 : Int32) < (u_93p10.1 1) := g_93p10_3
          have g_93p10_4 : ((u_93p10.1 1) = 0) ∨ (((u_93p10.1 0) = 259)) := g_93p10_4
          obtain d93p10_1_0 := g_93p10_4.resolve_left (i_nef g_93p10_1 (iR_c (n := 0) (a := 0) (b := 0) (by decide +kernel) (by decide +kernel)) (by decide +kernel))
          refine lv_goto (tgt := 111) hx hb dX2_readNumber_96 (by decide) ?_
          exact k_rv B hP hD hS dX2_readNumber_111 ((fun k9 => match k9 with | 0 => j2_F0_4 | 1 => (u_93p10.1 0) | 2 => v0_7 | 3 => (u_93p10.1 1) | 4 => (u_93p10.1 2) | _ => 0), (fun _ => 0), (fun _ => (fun _ => 0)), (fun _ => (fun _ => 0)), (fun _ => 0)) [1, 0] rfl rfl (Nat.le_of_ble_eq_true rfl) (Nat.le_of_ble_eq_true rfl) ⟨(show iR j2_F0_4 0 1600 from hj2_F0_4), (show iR (u_93p10.1 0) 257 259 from (iR_w g_93p10_0 (by decide +kernel))), (show iR (u_93p10.1 1) 0 6 from (iR_w g_93p10_1 (by decide +kernel))), (show XN f0_0 v0_3.toNatClampNeg v0_5 v0_7 v0_10 j2_F0_4 (u_93p10.1 0) v0_7 (u_93p10.1 1) (u_93p10.1 2) from ⟨((rn_e (Or.inl (i_leN c_10 hv0_3 hj2_F0_4 (by decide +kernel)))).symm.trans p2_0), Or.inl ⟨(by rw [← (i_subN ey_80p10 v2_0 hj2_F0_4 hv0_5 (by decide +kernel))]; exact i_gtL c_82p10 f_85p10_2 (by decide +kernel)), (g_93p10_2.resolve_right (fun q9 => q9.1 (i_eqc hxv0_9 (iR_c (n := 0) (a := 0) (b := 0) (by decide +kernel) (by decide +kernel))))).2.1, rfl, (g_93p10_2.resolve_right (fun q9 => q9.1 (i_eqc hxv0_9 (iR_c (n := 0) (a := 0) (b := 0) (by decide +kernel) (by decide +kernel))))).2.2.1, (g_93p10_2.resolve_right (fun q9 => q9.1 (i_eqc hxv0_9 (iR_c (n := 0) (a := 0) (b := 0) (by decide +kernel) (by decide +kernel))))).2.2.2.trans ey_92p10⟩⟩), (show (0 : Int32) < v0_9 → (0 : Int32) < (u_93p10.1 1) from (fun h => g_93p10_3 ((fun h => h) h))), (show ((u_93p10.1 1) = 0) ∨ (((u_93p10.1 0) = 259)) from (Or.inr d93p10_1_0))⟩
      · have c_10 : j2_F0_4 < v0_3 := i_nle c_10
        have f_13_1 : iR j2_F0_4 0 1599 := iR_ltL c_10 hj2_F0_4 hv0_3 (by decide +kernel)
        have f_13_2 : iR v0_3 1 1600 := iR_ltR c_10 hj2_F0_4 hv0_3 (by decide +kernel)
        refine lv_aload_n hx hb dX2_readNumber_13 rfl (lv_at hl 0 rfl) ?_
        refine k_get (D := (dC, dI)) (ci := 2) (v := .ref a0_0) (C := RX2) (T := TX2) (N := 11) hx hb hts hinX2 hown hK hP 0 rfl rfl 0 (by decide) w_5 rfl rfl dX2_readNumber_14 ?_
        refine lv_aload_n hx hb dX2_readNumber_17 rfl (lv_at hl 0 rfl) ?_
        refine k_get (D := (dC, dI)) (ci := 2) (v := .int j2_F0_4) (C := RX2) (T := TX2) (N := 11) hx hb hts hinX2 hown hK hP 0 rfl rfl 4 (by decide) w_0 rfl rfl dX2_readNumber_18 ?_
        refine va_iald hx hb hK hP 1 0 rfl rfl (iR_vp f_13_1 (by decide +kernel)) dX2_readNumber_21 ?_
        have f_21_3 : iR (f0_0 j2_F0_4.toNatClampNeg) 0 255 := hf0_0 _
        refine k_ci (wc := []) (wr := [(a0, .inr (2, [.ref a0_0, .ref a0_1, .ref b0_2, .int v0_3, .int j2_F0_4, .int v0_5, .int v0_6, .int v0_7, .int 0, .int v0_9, .int v0_10])), (a0_0, .inl (cI, 1600, .inl f0_0))]) (fun hPc hDc hFc => va_runS (As := [.int (f0_0 j2_F0_4.toNatClampNeg)]) (rest := []) ⟨hx, hb, hml, hown, hts⟩ (s_X2_isDigit_v0 l dC dI cI cJ cZ cM (f0_0 j2_F0_4.toNatClampNeg) H.size) (va_cwS 1 hts gX2_readNumber_X2_isDigit rfl rfl rfl (by decide +kernel) ⟨(Nat.le_of_ble_eq_true rfl), (Nat.le_of_ble_eq_true rfl)⟩) (k_pS hPc hDc hK hN hC hS hFc) rfl rfl hl.1 rfl (lv_room (Nat.le_of_ble_eq_true rfl)) dX2_readNumber_22 ⟨(Nat.le_of_ble_eq_true rfl), (Nat.le_of_ble_eq_true rfl)⟩) hP hD hS hA [] [0, 1] rfl rfl rfl rfl (by decide) (fun _ => rfl) 0 0 rfl rfl (fun r_22 u_22 H locs hw hP hD hS => ?_)
        obtain ⟨g_22_0, g_22_1⟩ := hw
        have hP : va_P (dC, dI) vwCl [(a0, .inr (2, [.ref a0_0, .ref a0_1, .ref b0_2, .int v0_3, .int j2_F0_4, .int v0_5, .int v0_6, .int v0_7, .int 0, .int v0_9, .int v0_10])), (a0_0, .inl (cI, 1600, .inl f0_0))] H := hP
        have hD : va_D A [(a0, .inr (2, [.ref a0_0, .ref a0_1, .ref b0_2, .int v0_3, .int j2_F0_4, .int v0_5, .int v0_6, .int v0_7, .int 0, .int v0_9, .int v0_10])), (a0_0, .inl (cI, 1600, .inl f0_0))] := hD
        have g_22_1 : r_22 = bI (cD (f0_0 j2_F0_4.toNatClampNeg)) := g_22_1
        refine lv_if_eq (tgt := 72) hx hb dX2_readNumber_25 (by decide) (fun c_25 => ?_) (fun c_25 => ?_)
        · have c_25 : r_22 = 0 := c_25
          have f_72_4 : iR r_22 0 0 := iR_eqL c_25 g_22_0 (iR_c (n := 0) (a := 0) (b := 0) (by decide +kernel) (by decide +kernel)) (by decide +kernel)
          refine lv_aload_n hx hb dX2_readNumber_72 rfl (lv_at hl 0 rfl) ?_
          refine k_get (D := (dC, dI)) (ci := 2) (v := .int j2_F0_4) (C := RX2) (T := TX2) (N := 11) hx hb hts hinX2 hown hK hP 0 rfl rfl 4 (by decide) w_0 rfl rfl dX2_readNumber_73 ?_
          refine lv_aload_n hx hb dX2_readNumber_76 rfl (lv_at hl 0 rfl) ?_
          refine k_get (D := (dC, dI)) (ci := 2) (v := .int v0_5) (C := RX2) (T := TX2) (N := 11) hx hb hts hinX2 hown hK hP 0 rfl rfl 5 (by decide) w_2 rfl rfl dX2_readNumber_77 ?_
          refine lv_isub hx hb dX2_readNumber_80 ?_
          refine lv_topi (fun y_80p25 ey_80p25 => ?_)
          have xy_80p25 : y_80p25.toInt = j2_F0_4.toInt - v0_5.toInt := i_sub ey_80p25 f_13_1 hv0_5 (by decide +kernel)
          have f_80p25_5 : iR y_80p25 0 1599 := iR_subge ey_80p25 v2_0 f_13_1 hv0_5 (by decide +kernel)
          refine lv_iconst (v := 4) hx hb dX2_readNumber_81 (by decide +kernel) ?_
          refine lv_icmp_le (tgt := 99) hx hb dX2_readNumber_82 (by decide) (fun c_82p25 => ?_) (fun c_82p25 => ?_)
          · have c_82p25 : y_80p25 ≤ 4 := c_82p25
            have f_99p25_6 : iR y_80p25 0 4 := iR_leL c_82p25 f_80p25_5 (iR_c (n := 4) (a := 4) (b := 4) (by decide +kernel) (by decide +kernel)) (by decide +kernel)
            refine lv_aload_n hx hb dX2_readNumber_99 rfl (lv_at hl 0 rfl) ?_
            refine lv_sipush (v := 257) hx hb dX2_readNumber_100 (by decide +kernel) ?_
            refine k_put (D := (dC, dI)) (ci := 2) (v := .int 257) (C := RX2) (T := TX2) (N := 11) (ws' := [(a0, .inr (2, [.ref a0_0, .ref a0_1, .ref b0_2, .int v0_3, .int j2_F0_4, .int v0_5, .int 257, .int v0_7, .int 0, .int v0_9, .int v0_10])), (a0_0, .inl (cI, 1600, .inl f0_0))]) hx hb hts hinX2 tyX2 tyX2_ok nmX2 hown hK hP hD hS 0 rfl rfl 6 (by decide) w_3 rfl rfl rfl rfl (Nat.le_of_ble_eq_true rfl) rfl dX2_readNumber_103 (fun H locs hP hD hS => ?_)
            refine lv_aload_n hx hb dX2_readNumber_106 rfl (lv_at hl 0 rfl) ?_
            refine lv_iload_n hx hb dX2_readNumber_107 rfl (lv_at hl 1 rfl) ?_
            refine k_put (D := (dC, dI)) (ci := 2) (v := .int j2_L1) (C := RX2) (T := TX2) (N := 11) (ws' := [(a0, .inr (2, [.ref a0_0, .ref a0_1, .ref b0_2, .int v0_3, .int j2_F0_4, .int v0_5, .int 257, .int j2_L1, .int 0, .int v0_9, .int v0_10])), (a0_0, .inl (cI, 1600, .inl f0_0))]) hx hb hts hinX2 tyX2 tyX2_ok nmX2 hown hK hP hD hS 0 rfl rfl 7 (by decide) w_4 rfl rfl rfl rfl (Nat.le_of_ble_eq_true rfl) rfl dX2_readNumber_108 (fun H locs hP hD hS => ?_)
            exact k_rv B hP hD hS dX2_readNumber_111 ((fun k9 => match k9 with | 0 => j2_F0_4 | 1 => 257 | 2 => j2_L1 | 3 => v0_9 | 4 => v0_10 | _ => 0), (fun _ => 0), (fun _ => (fun _ => 0)), (fun _ => (fun _ => 0)), (fun _ => 0)) [0, 1] rfl rfl (Nat.le_of_ble_eq_true rfl) (Nat.le_of_ble_eq_true rfl) ⟨(show iR j2_F0_4 0 1600 from (iR_w f_13_1 (by decide +kernel))), (show iR 257 257 259 from (iR_c (n := 257) (a := 257) (b := 259) (by decide +kernel) (by decide +kernel))), (show iR v0_9 0 6 from (iR_w hxv0_9 (by decide +kernel))), (show XN f0_0 v0_3.toNatClampNeg v0_5 v0_7 v0_10 j2_F0_4 257 j2_L1 v0_9 v0_10 from ⟨((rn_e (Or.inr (bI_f g_22_1 c_25))).symm.trans p2_0), Or.inr ⟨(by rw [← (i_subN ey_80p25 v2_0 f_13_1 hv0_5 (by decide +kernel))]; exact i_leL9 c_82p25 f_99p25_6 (by decide +kernel)), rfl, ((fN_e (Or.inr (bI_f g_22_1 c_25))).symm.trans p2_1), (i_eqc hxv0_9 (iR_c (n := 0) (a := 0) (b := 0) (by decide +kernel) (by decide +kernel))), rfl⟩⟩), (show (0 : Int32) < v0_9 → (0 : Int32) < v0_9 from (fun h => h)), (show (v0_9 = 0) ∨ ((257 = 259)) from (Or.inl (i_eqc hxv0_9 (iR_c (n := 0) (a := 0) (b := 0) (by decide +kernel) (by decide +kernel)))))⟩
          · have c_82p25 : 4 < y_80p25 := i_nle c_82p25
            have f_85p25_6 : iR y_80p25 5 1599 := iR_ltR c_82p25 (iR_c (n := 4) (a := 4) (b := 4) (by decide +kernel) (by decide +kernel)) f_80p25_5 (by decide +kernel)
            refine lv_aload_n hx hb dX2_readNumber_85 rfl (lv_at hl 0 rfl) ?_
            refine lv_iconst (v := 1) hx hb dX2_readNumber_86 (by decide +kernel) ?_
            refine lv_aload_n hx hb dX2_readNumber_87 rfl (lv_at hl 0 rfl) ?_
            refine k_get (D := (dC, dI)) (ci := 2) (v := .int v0_5) (C := RX2) (T := TX2) (N := 11) hx hb hts hinX2 hown hK hP 0 rfl rfl 5 (by decide) w_2 rfl rfl dX2_readNumber_88 ?_
            refine lv_iconst (v := 4) hx hb dX2_readNumber_91 (by decide +kernel) ?_
            refine lv_iadd hx hb dX2_readNumber_92 ?_
            refine lv_topi (fun y_92p25 ey_92p25 => ?_)
            have xy_92p25 : y_92p25.toInt = v0_5.toInt + 4 := i_add ey_92p25 hv0_5 (iR_c (n := 4) (a := 4) (b := 4) (by decide +kernel) (by decide +kernel)) (by decide +kernel)
            have f_92p25_7 : iR y_92p25 4 1604 := iR_add ey_92p25 hv0_5 (iR_c (n := 4) (a := 4) (b := 4) (by decide +kernel) (by decide +kernel)) (by decide +kernel)
            refine k_cv (wc := [(a0, .inr (2, [.ref a0_0, .ref a0_1, .ref b0_2, .int v0_3, .int j2_F0_4, .int v0_5, .int v0_6, .int v0_7, .int 0, .int v0_9, .int v0_10]))]) (wr := [(a0_0, .inl (cI, 1600, .inl f0_0))]) (fun hPc hDc hFc => va_runV (As := [.int 1, .int y_92p25]) (rest := []) ⟨hx, hb, hml, hown, hts⟩ (s_X2_blame_v1 l dC dI cI cJ cZ cM a0 1 y_92p25 a0_0 a0_1 b0_2 v0_3 j2_F0_4 v0_5 v0_6 v0_7 v0_9 v0_10 (iR_c (n := 1) (a := 1) (b := 6) (by decide +kernel) (by decide +kernel)) (iR_w f_13_2 (by decide +kernel)) (iR_w f_13_1 (by decide +kernel)) hv0_5 hv0_6 (iR_w hxv0_9 (by decide +kernel)) hpg0 H.size) (cwV 2 hts gX2_readNumber_X2_blame rfl rfl rfl (by decide +kernel) ⟨(Nat.le_of_ble_eq_true rfl), (Nat.le_of_ble_eq_true rfl)⟩) (k_pV hPc hDc hK hN hC hS hFc hP (q0 := 0) (ci := 2) rfl rfl) rfl rfl hl.1 rfl (lv_room (Nat.le_of_ble_eq_true rfl)) dX2_readNumber_93 ⟨(Nat.le_of_ble_eq_true rfl), (Nat.le_of_ble_eq_true rfl)⟩) hP hD hS hA [0] [1] rfl rfl rfl rfl (by decide) (fun _ => rfl) 0 0 rfl rfl (fun u_93p25 H locs hw hP hD hS => ?_)
            obtain ⟨g_93p25_0, g_93p25_1, g_93p25_2, g_93p25_3, g_93p25_4⟩ := hw
            have hP : va_P (dC, dI) vwCl [(a0_0, .inl (cI, 1600, .inl f0_0)), (a0, .inr (2, [.ref a0_0, .ref a0_1, .ref b0_2, .int v0_3, .int j2_F0_4, .int v0_5, .int (u_93p25.1 0), .int v0_7, .int 0, .int (u_93p25.1 1), .int (u_93p25.1 2)]))] H := hP
            have hD : va_D A [(a0_0, .inl (cI, 1600, .inl f0_0)), (a0, .inr (2, [.ref a0_0, .ref a0_1, .ref b0_2, .int v0_3, .int j2_F0_4, .int v0_5, .int (u_93p25.1 0), .int v0_7, .int 0, .int (u_93p25.1 1), .int (u_93p25.1 2)]))] := hD
            have g_93p25_2 : BL v0_6 v0_9 v0_10 1 y_92p25 (u_93p25.1 0) (u_93p25.1 1) (u_93p25.1 2) := g_93p25_2
            have g_93p25_3 : (0 : Int32) < v0_9 → (0 : Int32) < (u_93p25.1 1) := g_93p25_3
            have g_93p25_4 : ((u_93p25.1 1) = 0) ∨ (((u_93p25.1 0) = 259)) := g_93p25_4
            obtain d93p25_1_0 := g_93p25_4.resolve_left (i_nef g_93p25_1 (iR_c (n := 0) (a := 0) (b := 0) (by decide +kernel) (by decide +kernel)) (by decide +kernel))
            refine lv_goto (tgt := 111) hx hb dX2_readNumber_96 (by decide) ?_
            exact k_rv B hP hD hS dX2_readNumber_111 ((fun k9 => match k9 with | 0 => j2_F0_4 | 1 => (u_93p25.1 0) | 2 => v0_7 | 3 => (u_93p25.1 1) | 4 => (u_93p25.1 2) | _ => 0), (fun _ => 0), (fun _ => (fun _ => 0)), (fun _ => (fun _ => 0)), (fun _ => 0)) [1, 0] rfl rfl (Nat.le_of_ble_eq_true rfl) (Nat.le_of_ble_eq_true rfl) ⟨(show iR j2_F0_4 0 1600 from (iR_w f_13_1 (by decide +kernel))), (show iR (u_93p25.1 0) 257 259 from (iR_w g_93p25_0 (by decide +kernel))), (show iR (u_93p25.1 1) 0 6 from (iR_w g_93p25_1 (by decide +kernel))), (show XN f0_0 v0_3.toNatClampNeg v0_5 v0_7 v0_10 j2_F0_4 (u_93p25.1 0) v0_7 (u_93p25.1 1) (u_93p25.1 2) from ⟨((rn_e (Or.inr (bI_f g_22_1 c_25))).symm.trans p2_0), Or.inl ⟨(by rw [← (i_subN ey_80p25 v2_0 f_13_1 hv0_5 (by decide +kernel))]; exact i_gtL c_82p25 f_85p25_6 (by decide +kernel)), (g_93p25_2.resolve_right (fun q9 => q9.1 (i_eqc hxv0_9 (iR_c (n := 0) (a := 0) (b := 0) (by decide +kernel) (by decide +kernel))))).2.1, rfl, (g_93p25_2.resolve_right (fun q9 => q9.1 (i_eqc hxv0_9 (iR_c (n := 0) (a := 0) (b := 0) (by decide +kernel) (by decide +kernel))))).2.2.1, (g_93p25_2.resolve_right (fun q9 => q9.1 (i_eqc hxv0_9 (iR_c (n := 0) (a := 0) (b := 0) (by decide +kernel) (by decide +kernel))))).2.2.2.trans ey_92p25⟩⟩), (show (0 : Int32) < v0_9 → (0 : Int32) < (u_93p25.1 1) from (fun h => g_93p25_3 ((fun h => h) h))), (show ((u_93p25.1 1) = 0) ∨ (((u_93p25.1 0) = 259)) from (Or.inr d93p25_1_0))⟩
        · have c_25 : ¬ r_22 = 0 := c_25
          have f_28_4 : iR r_22 1 1 := iR_neL c_25 g_22_0 (iR_c (n := 0) (a := 0) (b := 0) (by decide +kernel) (by decide +kernel)) (by decide +kernel)
          refine lv_aload_n hx hb dX2_readNumber_28 rfl (lv_at hl 0 rfl) ?_
          refine k_get (D := (dC, dI)) (ci := 2) (v := .int j2_F0_4) (C := RX2) (T := TX2) (N := 11) hx hb hts hinX2 hown hK hP 0 rfl rfl 4 (by decide) w_0 rfl rfl dX2_readNumber_29 ?_
          refine lv_aload_n hx hb dX2_readNumber_32 rfl (lv_at hl 0 rfl) ?_
          refine k_get (D := (dC, dI)) (ci := 2) (v := .int v0_5) (C := RX2) (T := TX2) (N := 11) hx hb hts hinX2 hown hK hP 0 rfl rfl 5 (by decide) w_2 rfl rfl dX2_readNumber_33 ?_
          refine lv_isub hx hb dX2_readNumber_36 ?_
          refine lv_topi (fun y_36 ey_36 => ?_)
          have xy_36 : y_36.toInt = j2_F0_4.toInt - v0_5.toInt := i_sub ey_36 f_13_1 hv0_5 (by decide +kernel)
          have f_36_5 : iR y_36 0 1599 := iR_subge ey_36 v2_0 f_13_1 hv0_5 (by decide +kernel)
          refine lv_iconst (v := 4) hx hb dX2_readNumber_37 (by decide +kernel) ?_
          refine lv_icmp_ge (tgt := 59) hx hb dX2_readNumber_38 (by decide) (fun c_38 => ?_) (fun c_38 => ?_)
          · have c_38 : 4 ≤ y_36 := c_38
            have f_59_6 : iR y_36 4 1599 := iR_leR c_38 (iR_c (n := 4) (a := 4) (b := 4) (by decide +kernel) (by decide +kernel)) f_36_5 (by decide +kernel)
            refine lv_aload_n hx hb dX2_readNumber_59 rfl (lv_at hl 0 rfl) ?_
            refine lv_dup hx hb dX2_readNumber_60 rfl ?_
            refine k_get (D := (dC, dI)) (ci := 2) (v := .int j2_F0_4) (C := RX2) (T := TX2) (N := 11) hx hb hts hinX2 hown hK hP 0 rfl rfl 4 (by decide) w_0 rfl rfl dX2_readNumber_61 ?_
            refine lv_iconst (v := 1) hx hb dX2_readNumber_64 (by decide +kernel) ?_
            refine lv_iadd hx hb dX2_readNumber_65 ?_
            refine lv_topi (fun y_65p38 ey_65p38 => ?_)
            have xy_65p38 : y_65p38.toInt = j2_F0_4.toInt + 1 := i_add ey_65p38 f_13_1 (iR_c (n := 1) (a := 1) (b := 1) (by decide +kernel) (by decide +kernel)) (by decide +kernel)
            have f_65p38_7 : iR y_65p38 1 1600 := iR_add ey_65p38 f_13_1 (iR_c (n := 1) (a := 1) (b := 1) (by decide +kernel) (by decide +kernel)) (by decide +kernel)
            refine k_put (D := (dC, dI)) (ci := 2) (v := .int y_65p38) (C := RX2) (T := TX2) (N := 11) (ws' := [(a0, .inr (2, [.ref a0_0, .ref a0_1, .ref b0_2, .int v0_3, .int y_65p38, .int v0_5, .int v0_6, .int v0_7, .int 0, .int v0_9, .int v0_10])), (a0_0, .inl (cI, 1600, .inl f0_0))]) hx hb hts hinX2 tyX2 tyX2_ok nmX2 hown hK hP hD hS 0 rfl rfl 4 (by decide) w_0 rfl rfl rfl rfl (Nat.le_of_ble_eq_true rfl) rfl dX2_readNumber_66 (fun H locs hP hD hS => ?_)
            refine lv_goto (tgt := 2) hx hb dX2_readNumber_69 (by decide) ?_
            exact ih_2 y_65p38 j2_L1 (iR_w f_65p38_7 (by decide +kernel)) (i_lestep v2_0 ey_65p38 f_13_1 (iR_c (n := 1) (a := 1) (b := 1) (by decide +kernel) (by decide +kernel)) (by decide +kernel)) (show rn cD f0_0 v0_3.toNatClampNeg y_65p38.toNatClampNeg = rn cD f0_0 v0_3.toNatClampNeg v0_5.toNatClampNeg from (by rw [i_succ ey_65p38 f_13_1 (by decide +kernel), rn_s (i_ltN c_10 f_13_1 f_13_2 (by decide +kernel)) (bI_t g_22_1 c_25)]; exact p2_0)) (show fN f0_0 v0_3.toNatClampNeg (y_65p38.toNatClampNeg - v0_5.toNatClampNeg) y_65p38.toNatClampNeg j2_L1 = fN f0_0 v0_3.toNatClampNeg 0 v0_5.toNatClampNeg 0 from (by rw [i_succ ey_65p38 f_13_1 (by decide +kernel), i_subS v2_0 f_13_1 hv0_5 (by decide +kernel)]; exact fN_s (i_ltN c_10 f_13_1 f_13_2 (by decide +kernel)) (bI_t g_22_1 c_25) (gN_n (by rw [← (i_subN ey_36 v2_0 f_13_1 hv0_5 (by decide +kernel))]; exact i_geL c_38 f_59_6 (by decide +kernel))).symm p2_1)) (m_up (B := 1600) hm_2 ey_65p38 f_13_1 (by decide +kernel)) H locs ls hP hD hS (lv_sub hl [0, 1] rfl)
          · have c_38 : y_36 < 4 := i_nle c_38
            have f_41_6 : iR y_36 0 3 := iR_ltL c_38 f_36_5 (iR_c (n := 4) (a := 4) (b := 4) (by decide +kernel) (by decide +kernel)) (by decide +kernel)
            refine lv_iload_n hx hb dX2_readNumber_41 rfl (lv_at hl 1 rfl) ?_
            refine lv_bipush (v := 10) hx hb dX2_readNumber_42 (by decide +kernel) ?_
            refine lv_imul hx hb dX2_readNumber_44 ?_
            refine lv_topi (fun y_44 ey_44 => ?_)
            refine lv_aload_n hx hb dX2_readNumber_45 rfl (lv_at hl 0 rfl) ?_
            refine k_get (D := (dC, dI)) (ci := 2) (v := .ref a0_0) (C := RX2) (T := TX2) (N := 11) hx hb hts hinX2 hown hK hP 0 rfl rfl 0 (by decide) w_5 rfl rfl dX2_readNumber_46 ?_
            refine lv_aload_n hx hb dX2_readNumber_49 rfl (lv_at hl 0 rfl) ?_
            refine k_get (D := (dC, dI)) (ci := 2) (v := .int j2_F0_4) (C := RX2) (T := TX2) (N := 11) hx hb hts hinX2 hown hK hP 0 rfl rfl 4 (by decide) w_0 rfl rfl dX2_readNumber_50 ?_
            refine va_iald hx hb hK hP 1 0 rfl rfl (iR_vp f_13_1 (by decide +kernel)) dX2_readNumber_53 ?_
            refine lv_iadd hx hb dX2_readNumber_54 ?_
            refine lv_topi (fun y_54 ey_54 => ?_)
            refine lv_bipush (v := 48) hx hb dX2_readNumber_55 (by decide +kernel) ?_
            refine lv_isub hx hb dX2_readNumber_57 ?_
            refine lv_topi (fun y_57 ey_57 => ?_)
            refine lv_istore_n (lv' := [(1, .int y_57), (0, .ref a0)]) hx hb dX2_readNumber_58 rfl hl (by decide) rfl (fun ls hl => ?_)
            refine lv_aload_n hx hb dX2_readNumber_59 rfl (lv_at hl 1 rfl) ?_
            refine lv_dup hx hb dX2_readNumber_60 rfl ?_
            refine k_get (D := (dC, dI)) (ci := 2) (v := .int j2_F0_4) (C := RX2) (T := TX2) (N := 11) hx hb hts hinX2 hown hK hP 0 rfl rfl 4 (by decide) w_0 rfl rfl dX2_readNumber_61 ?_
            refine lv_iconst (v := 1) hx hb dX2_readNumber_64 (by decide +kernel) ?_
            refine lv_iadd hx hb dX2_readNumber_65 ?_
            refine lv_topi (fun y_65p58 ey_65p58 => ?_)
            have xy_65p58 : y_65p58.toInt = j2_F0_4.toInt + 1 := i_add ey_65p58 f_13_1 (iR_c (n := 1) (a := 1) (b := 1) (by decide +kernel) (by decide +kernel)) (by decide +kernel)
            have f_65p58_7 : iR y_65p58 1 1600 := iR_add ey_65p58 f_13_1 (iR_c (n := 1) (a := 1) (b := 1) (by decide +kernel) (by decide +kernel)) (by decide +kernel)
            refine k_put (D := (dC, dI)) (ci := 2) (v := .int y_65p58) (C := RX2) (T := TX2) (N := 11) (ws' := [(a0, .inr (2, [.ref a0_0, .ref a0_1, .ref b0_2, .int v0_3, .int y_65p58, .int v0_5, .int v0_6, .int v0_7, .int 0, .int v0_9, .int v0_10])), (a0_0, .inl (cI, 1600, .inl f0_0))]) hx hb hts hinX2 tyX2 tyX2_ok nmX2 hown hK hP hD hS 0 rfl rfl 4 (by decide) w_0 rfl rfl rfl rfl (Nat.le_of_ble_eq_true rfl) rfl dX2_readNumber_66 (fun H locs hP hD hS => ?_)
            refine lv_goto (tgt := 2) hx hb dX2_readNumber_69 (by decide) ?_
            exact ih_2 y_65p58 y_57 (iR_w f_65p58_7 (by decide +kernel)) (i_lestep v2_0 ey_65p58 f_13_1 (iR_c (n := 1) (a := 1) (b := 1) (by decide +kernel) (by decide +kernel)) (by decide +kernel)) (show rn cD f0_0 v0_3.toNatClampNeg y_65p58.toNatClampNeg = rn cD f0_0 v0_3.toNatClampNeg v0_5.toNatClampNeg from (by rw [i_succ ey_65p58 f_13_1 (by decide +kernel), rn_s (i_ltN c_10 f_13_1 f_13_2 (by decide +kernel)) (bI_t g_22_1 c_25)]; exact p2_0)) (show fN f0_0 v0_3.toNatClampNeg (y_65p58.toNatClampNeg - v0_5.toNatClampNeg) y_65p58.toNatClampNeg y_57 = fN f0_0 v0_3.toNatClampNeg 0 v0_5.toNatClampNeg 0 from (by rw [i_succ ey_65p58 f_13_1 (by decide +kernel), i_subS v2_0 f_13_1 hv0_5 (by decide +kernel)]; exact fN_s (i_ltN c_10 f_13_1 f_13_2 (by decide +kernel)) (bI_t g_22_1 c_25) ((gN_y (by rw [← (i_subN ey_36 v2_0 f_13_1 hv0_5 (by decide +kernel))]; exact i_ltL c_38 f_41_6 (by decide +kernel))).trans (by rw [ey_57, ey_54, ey_44])).symm p2_1)) (m_up (B := 1600) hm_2 ey_65p58 f_13_1 (by decide +kernel)) H locs ls hP hD hS (lv_sub hl [1, 0] rfl)
  refine lv_istore_n (lv' := [(1, .int 0), (0, .ref a0)]) hx hb dX2_readNumber_1 rfl hl (by decide) rfl (fun ls hl => ?_)
  exact J_2 _ v0_4 0 hv0_4 (i_leq hr0) (show rn cD f0_0 v0_3.toNatClampNeg v0_4.toNatClampNeg = rn cD f0_0 v0_3.toNatClampNeg v0_5.toNatClampNeg from (by rw [hr0])) (show fN f0_0 v0_3.toNatClampNeg (v0_4.toNatClampNeg - v0_5.toNatClampNeg) v0_4.toNatClampNeg (0 : Int32) = fN f0_0 v0_3.toNatClampNeg 0 v0_5.toNatClampNeg 0 from (by rw [hr0, Nat.sub_self])) (Nat.lt_succ_self _) H locs ls hP hD hS (lv_sub hl [1, 0] rfl)
set_option maxHeartbeats 8000000 in
set_option maxRecDepth 100000 in
theorem s_X2_readWord_v1 (l : Launch) (dC : Nat → ClassId) (dI : Nat → Nat → Nat) (cI cJ cZ cM : ClassId) (a0 : Nat) (a0_0 : Nat) (f0_0 : Nat → Int32) (a0_1 : Nat) (g0_1 : Nat → Int64) (b0_2 : Nat) (v0_3 : Int32) (v0_4 : Int32) (v0_5 : Int32) (v0_6 : Int32) (v0_7 : Int32) (v0_9 : Int32) (v0_10 : Int32) (hxv0_9 : iR v0_9 0 0) (hv0_3 : iR v0_3 0 1600) (hv0_4 : iR v0_4 0 1600) (hv0_5 : iR v0_5 0 1600) (hv0_6 : iR v0_6 0 324) (hv0_9 : iR v0_9 0 6) (hf0_0 : aR f0_0 0 255) (hpg0 : (v0_9 = 0) ∨ ((v0_6 = 259))) (hr0 : v0_5 = v0_4) : k_Mv l yX2_readWord wsX2_readWord ({ frames := 2, cells := 0, slots := 0, locals := 63 }) (dC, dI) vwCl (tyy cI cJ cZ cM) [(a0, .inr (2, [.ref a0_0, .ref a0_1, .ref b0_2, .int v0_3, .int v0_4, .int v0_5, .int v0_6, .int v0_7, .int 0, .int v0_9, .int v0_10])), (a0_0, .inl (cI, 1600, .inl f0_0)), (a0_1, .inl (cJ, 25, .inr (.inl g0_1)))] [.ref a0] 0 0 (fun (u9 : SU) => [(a0, .inr (2, [.ref a0_0, .ref a0_1, .ref b0_2, .int v0_3, .int (u9.1 0), .int v0_5, .int (u9.1 1), .int (u9.1 2), .int 0, .int (u9.1 3), .int (u9.1 4)])), (a0_0, .inl (cI, 1600, .inl f0_0)), (a0_1, .inl (cJ, 25, .inr (.inl g0_1)))]) (fun (u9 : SU) => (iR (u9.1 0) 0 1600) ∧ (iR (u9.1 1) 258 324) ∧ (iR (u9.1 3) 0 6) ∧ (XW f0_0 g0_1 v0_3.toNatClampNeg v0_5 v0_7 v0_10 (u9.1 0) (u9.1 1) (u9.1 2) (u9.1 3) (u9.1 4)) ∧ ((0 : Int32) < v0_9 → (0 : Int32) < (u9.1 3)) ∧ (((u9.1 3) = 0) ∨ (((u9.1 1) = 259)))) := by
  refine fun sz => k_enter (cc := cX2_readWord) (maxL := 7) (ret := none) (Qc := fun A => va_Qv (fun (u9 : SU) => (iR (u9.1 0) 0 1600) ∧ (iR (u9.1 1) 258 324) ∧ (iR (u9.1 3) 0 6) ∧ (XW f0_0 g0_1 v0_3.toNatClampNeg v0_5 v0_7 v0_10 (u9.1 0) (u9.1 1) (u9.1 2) (u9.1 3) (u9.1 4)) ∧ ((0 : Int32) < v0_9 → (0 : Int32) < (u9.1 3)) ∧ (((u9.1 3) = 0) ∨ (((u9.1 1) = 259)))) (fun u => k_B (dC, dI) vwCl (tyy cI cJ cZ cM) A ((fun (u9 : SU) => [(a0, .inr (2, [.ref a0_0, .ref a0_1, .ref b0_2, .int v0_3, .int (u9.1 0), .int v0_5, .int (u9.1 1), .int (u9.1 2), .int 0, .int (u9.1 3), .int (u9.1 4)])), (a0_0, .inl (cI, 1600, .inl f0_0)), (a0_1, .inl (cJ, 25, .inr (.inl g0_1)))]) u)) A) sz (by decide +kernel) rfl (Nat.le_of_ble_eq_true rfl) (fun p e s m args below meth c A ls H locs B hP hD hS hl => ?_)
  obtain ⟨hx, hb, hml, hown, hts, hr, hlk, hnm, hK, hA, hN, hC⟩ := id B
  have hown : s.vm.findClass RX2 = some m.cls := hown
  have hl : lv_has ls 7 [(0, .ref a0)] := hl
  have w_0 : (Cond.fieldLink RX2 57 "WishSea$Reader" "position" "I").before args s = true := hts _ (List.mem_of_getElem? (i := 1) rfl)
  have w_1 : (Cond.fieldLink RX2 55 "WishSea$Reader" "length" "I").before args s = true := hts _ (List.mem_of_getElem? (i := 2) rfl)
  have w_2 : (Cond.fieldLink RX2 73 "WishSea$Reader" "start" "I").before args s = true := hts _ (List.mem_of_getElem? (i := 4) rfl)
  have w_3 : (Cond.fieldLink RX2 15 "WishSea$Reader" "token" "I").before args s = true := hts _ (List.mem_of_getElem? (i := 6) rfl)
  have w_4 : (Cond.fieldLink RX2 172 "WishSea$Reader" "value" "I").before args s = true := hts _ (List.mem_of_getElem? (i := 7) rfl)
  have w_5 : (Cond.fieldLink RX2 22 "WishSea$Reader" "text" "[I").before args s = true := hts _ (List.mem_of_getElem? (i := 3) rfl)
  have w_6 : (Cond.constantLong RX2 42 (27)).before args s = true := hts _ (List.mem_of_getElem? (i := 5) rfl)
  have hinX2 : ∀ w ∈ u_ws RX2 TX2 11, w ∈ wsX2_readWord := fun _ h => List.mem_cons_of_mem _ (List.mem_append_right _ h)
  refine lv_lconst (v := 0) hx hb dX2_readWord_0 (by decide +kernel) ?_
  refine lv_lstore_n (lv' := [(1, .long 0), (0, .ref a0)]) hx hb dX2_readWord_1 rfl hl (by decide) rfl (fun ls hl => ?_)
  refine lv_lconst (v := 1) hx hb dX2_readWord_2 (by decide +kernel) ?_
  have J_4 : ∀ (n_4 : Nat) (j4_F0_4 : Int32) (j4_L1 : Int64) (j4_L3 : Int64) (hj4_F0_4 : iR j4_F0_4 0 1600) (v4_0 : v0_5 ≤ j4_F0_4) (p4_0 : rn cL f0_0 v0_3.toNatClampNeg j4_F0_4.toNatClampNeg = rn cL f0_0 v0_3.toNatClampNeg v0_5.toNatClampNeg) (p4_1 : fK f0_0 v0_3.toNatClampNeg (j4_F0_4.toNatClampNeg - v0_5.toNatClampNeg) j4_F0_4.toNatClampNeg j4_L1 j4_L3 = fK f0_0 v0_3.toNatClampNeg 0 v0_5.toNatClampNeg 0 1) (hm_4 : (1600 - j4_F0_4.toInt).toNat < n_4) (H : Heap) (locs : List Loc) (ls : Array Slot), va_P (dC, dI) vwCl [(a0, .inr (2, [.ref a0_0, .ref a0_1, .ref b0_2, .int v0_3, .int j4_F0_4, .int v0_5, .int v0_6, .int v0_7, .int 0, .int v0_9, .int v0_10])), (a0_0, .inl (cI, 1600, .inl f0_0)), (a0_1, .inl (cJ, 25, .inr (.inl g0_1)))] H → va_D A [(a0, .inr (2, [.ref a0_0, .ref a0_1, .ref b0_2, .int v0_3, .int j4_F0_4, .int v0_5, .int v0_6, .int v0_7, .int 0, .int v0_9, .int v0_10])), (a0_0, .inl (cI, 1600, .inl f0_0)), (a0_1, .inl (cJ, 25, .inr (.inl g0_1)))] → va_S A s.heap H locs → lv_has ls 7 [(0, .ref a0), (1, .long j4_L1), (3, .long j4_L3)] → W p l e ({ frames := 2, cells := 0, slots := 0, locals := 63 }) s m args below meth c H locs 0 0 (MQ below (va_Qv (fun (u9 : SU) => (iR (u9.1 0) 0 1600) ∧ (iR (u9.1 1) 258 324) ∧ (iR (u9.1 3) 0 6) ∧ (XW f0_0 g0_1 v0_3.toNatClampNeg v0_5 v0_7 v0_10 (u9.1 0) (u9.1 1) (u9.1 2) (u9.1 3) (u9.1 4)) ∧ ((0 : Int32) < v0_9 → (0 : Int32) < (u9.1 3)) ∧ (((u9.1 3) = 0) ∨ (((u9.1 1) = 259)))) (fun u => k_B (dC, dI) vwCl (tyy cI cJ cZ cM) A ((fun (u9 : SU) => [(a0, .inr (2, [.ref a0_0, .ref a0_1, .ref b0_2, .int v0_3, .int (u9.1 0), .int v0_5, .int (u9.1 1), .int (u9.1 2), .int 0, .int (u9.1 3), .int (u9.1 4)])), (a0_0, .inl (cI, 1600, .inl f0_0)), (a0_1, .inl (cJ, 25, .inr (.inl g0_1)))]) u)) A) args s 0 0 A) (F0 m 4 ls []) := by
    intro n_4
    induction n_4 with
    | zero => intro j4_F0_4 j4_L1 j4_L3 hj4_F0_4 v4_0 p4_0 p4_1 hm_4; exact absurd hm_4 (Nat.not_lt_zero _)
    | succ n_4 ih_4 =>
      intro j4_F0_4 j4_L1 j4_L3 hj4_F0_4 v4_0 p4_0 p4_1 hm_4 H locs ls hP hD hS hl
      refine lv_aload_n hx hb dX2_readWord_4 rfl (lv_at hl 0 rfl) ?_
      refine k_get (D := (dC, dI)) (ci := 2) (v := .int j4_F0_4) (C := RX2) (T := TX2) (N := 11) hx hb hts hinX2 hown hK hP 0 rfl rfl 4 (by decide) w_0 rfl rfl dX2_readWord_5 ?_
      refine lv_aload_n hx hb dX2_readWord_8 rfl (lv_at hl 0 rfl) ?_
      refine k_get (D := (dC, dI)) (ci := 2) (v := .int v0_3) (C := RX2) (T := TX2) (N := 11) hx hb hts hinX2 hown hK hP 0 rfl rfl 3 (by decide) w_1 rfl rfl dX2_readWord_9 ?_
      refine lv_icmp_ge (tgt := 83) hx hb dX2_readWord_12 (by decide) (fun c_12 => ?_) (fun c_12 => ?_)
      · have c_12 : v0_3 ≤ j4_F0_4 := c_12
        refine lv_aload_n hx hb dX2_readWord_83 rfl (lv_at hl 0 rfl) ?_
        refine k_get (D := (dC, dI)) (ci := 2) (v := .int j4_F0_4) (C := RX2) (T := TX2) (N := 11) hx hb hts hinX2 hown hK hP 0 rfl rfl 4 (by decide) w_0 rfl rfl dX2_readWord_84 ?_
        refine lv_aload_n hx hb dX2_readWord_87 rfl (lv_at hl 0 rfl) ?_
        refine k_get (D := (dC, dI)) (ci := 2) (v := .int v0_5) (C := RX2) (T := TX2) (N := 11) hx hb hts hinX2 hown hK hP 0 rfl rfl 5 (by decide) w_2 rfl rfl dX2_readWord_88 ?_
        refine lv_isub hx hb dX2_readWord_91 ?_
        refine lv_topi (fun y_91p12 ey_91p12 => ?_)
        have xy_91p12 : y_91p12.toInt = j4_F0_4.toInt - v0_5.toInt := i_sub ey_91p12 hj4_F0_4 hv0_5 (by decide +kernel)
        have f_91p12_1 : iR y_91p12 0 1600 := iR_subge ey_91p12 v4_0 hj4_F0_4 hv0_5 (by decide +kernel)
        refine lv_istore (lv' := [(5, .int y_91p12), (0, .ref a0), (1, .long j4_L1), (3, .long j4_L3)]) hx hb dX2_readWord_92 hl (by decide) rfl (fun ls hl => ?_)
        refine lv_iload hx hb dX2_readWord_94 (lv_at hl 0 rfl) ?_
        refine lv_bipush (v := 7) hx hb dX2_readWord_96 (by decide +kernel) ?_
        refine lv_icmp_le (tgt := 105) hx hb dX2_readWord_98 (by decide) (fun c_98p12 => ?_) (fun c_98p12 => ?_)
        · have c_98p12 : y_91p12 ≤ 7 := c_98p12
          have f_105p12_2 : iR y_91p12 0 7 := iR_leL c_98p12 f_91p12_1 (iR_c (n := 7) (a := 7) (b := 7) (by decide +kernel) (by decide +kernel)) (by decide +kernel)
          refine lv_aload_n hx hb dX2_readWord_105 rfl (lv_at hl 1 rfl) ?_
          refine lv_lload_n hx hb dX2_readWord_106 rfl (lv_at hl 2 rfl) ?_
          refine k_ci (wc := [(a0, .inr (2, [.ref a0_0, .ref a0_1, .ref b0_2, .int v0_3, .int j4_F0_4, .int v0_5, .int v0_6, .int v0_7, .int 0, .int v0_9, .int v0_10])), (a0_1, .inl (cJ, 25, .inr (.inl g0_1)))]) (wr := [(a0_0, .inl (cI, 1600, .inl f0_0))]) (fun hPc hDc hFc => va_runV (As := [.long j4_L1]) (rest := []) ⟨hx, hb, hml, hown, hts⟩ (s_X2_ownIndex_v1 l dC dI cI cJ cZ cM a0 j4_L1 a0_0 a0_1 g0_1 b0_2 v0_3 j4_F0_4 v0_5 v0_6 v0_7 v0_9 v0_10 hv0_3 hj4_F0_4 hv0_5 hv0_6 (iR_w hxv0_9 (by decide +kernel)) H.size) (cwV 1 hts gX2_readWord_X2_ownIndex rfl rfl rfl (by decide +kernel) ⟨(Nat.le_of_ble_eq_true rfl), (Nat.le_of_ble_eq_true rfl)⟩) (k_pV hPc hDc hK hN hC hS hFc hP (q0 := 0) (ci := 2) rfl rfl) rfl rfl hl.1 rfl (lv_room (Nat.le_of_ble_eq_true rfl)) dX2_readWord_107 ⟨(Nat.le_of_ble_eq_true rfl), (Nat.le_of_ble_eq_true rfl)⟩) hP hD hS hA [0, 2] [1] rfl rfl rfl rfl (by decide) (fun _ => rfl) 0 0 rfl rfl (fun r_107p12 u_107p12 H locs hw hP hD hS => ?_)
          obtain ⟨g_107p12_0, g_107p12_1⟩ := hw
          have hP : va_P (dC, dI) vwCl [(a0_0, .inl (cI, 1600, .inl f0_0)), (a0, .inr (2, [.ref a0_0, .ref a0_1, .ref b0_2, .int v0_3, .int j4_F0_4, .int v0_5, .int v0_6, .int v0_7, .int 0, .int v0_9, .int v0_10])), (a0_1, .inl (cJ, 25, .inr (.inl g0_1)))] H := hP
          have hD : va_D A [(a0_0, .inl (cI, 1600, .inl f0_0)), (a0, .inr (2, [.ref a0_0, .ref a0_1, .ref b0_2, .int v0_3, .int j4_F0_4, .int v0_5, .int v0_6, .int v0_7, .int 0, .int v0_9, .int v0_10])), (a0_1, .inl (cJ, 25, .inr (.inl g0_1)))] := hD
          have g_107p12_1 : IX g0_1 j4_L1 r_107p12 := g_107p12_1
          refine lv_istore (lv' := [(6, .int r_107p12), (5, .int y_91p12), (0, .ref a0), (1, .long j4_L1), (3, .long j4_L3)]) hx hb dX2_readWord_110 hl (by decide) rfl (fun ls hl => ?_)
          refine lv_iload hx hb dX2_readWord_112 (lv_at hl 0 rfl) ?_
          refine lv_if_lt (tgt := 130) hx hb dX2_readWord_114 (by decide) (fun c_114p12p107 => ?_) (fun c_114p12p107 => ?_)
          · have c_114p12p107 : r_107p12 < 0 := c_114p12p107
            have f_130p12p107_3 : iR r_107p12 (-1) (-1) := iR_ltL c_114p12p107 g_107p12_0 (iR_c (n := 0) (a := 0) (b := 0) (by decide +kernel) (by decide +kernel)) (by decide +kernel)
            refine lv_iload hx hb dX2_readWord_130 (lv_at hl 1 rfl) ?_
            refine lv_bipush (v := 6) hx hb dX2_readWord_132 (by decide +kernel) ?_
            refine lv_icmp_le (tgt := 152) hx hb dX2_readWord_134 (by decide) (fun c_134p12p107 => ?_) (fun c_134p12p107 => ?_)
            · have c_134p12p107 : y_91p12 ≤ 6 := c_134p12p107
              have f_152p12p107_4 : iR y_91p12 0 6 := iR_leL c_134p12p107 f_105p12_2 (iR_c (n := 6) (a := 6) (b := 6) (by decide +kernel) (by decide +kernel)) (by decide +kernel)
              refine lv_aload_n hx hb dX2_readWord_152 rfl (lv_at hl 2 rfl) ?_
              refine lv_sipush (v := 258) hx hb dX2_readWord_153 (by decide +kernel) ?_
              refine k_put (D := (dC, dI)) (ci := 2) (v := .int 258) (C := RX2) (T := TX2) (N := 11) (ws' := [(a0_0, .inl (cI, 1600, .inl f0_0)), (a0, .inr (2, [.ref a0_0, .ref a0_1, .ref b0_2, .int v0_3, .int j4_F0_4, .int v0_5, .int 258, .int v0_7, .int 0, .int v0_9, .int v0_10])), (a0_1, .inl (cJ, 25, .inr (.inl g0_1)))]) hx hb hts hinX2 tyX2 tyX2_ok nmX2 hown hK hP hD hS 1 rfl rfl 6 (by decide) w_3 rfl rfl rfl rfl (Nat.le_of_ble_eq_true rfl) rfl dX2_readWord_156 (fun H locs hP hD hS => ?_)
              refine lv_aload_n hx hb dX2_readWord_159 rfl (lv_at hl 2 rfl) ?_
              refine lv_lload_n hx hb dX2_readWord_160 rfl (lv_at hl 3 rfl) ?_
              refine lv_l2i (v := j4_L1.toInt32) hx hb dX2_readWord_161 rfl ?_
              refine lv_topi (fun y_161p12p107 ey_161p12p107 => ?_)
              refine k_put (D := (dC, dI)) (ci := 2) (v := .int y_161p12p107) (C := RX2) (T := TX2) (N := 11) (ws' := [(a0_0, .inl (cI, 1600, .inl f0_0)), (a0, .inr (2, [.ref a0_0, .ref a0_1, .ref b0_2, .int v0_3, .int j4_F0_4, .int v0_5, .int 258, .int y_161p12p107, .int 0, .int v0_9, .int v0_10])), (a0_1, .inl (cJ, 25, .inr (.inl g0_1)))]) hx hb hts hinX2 tyX2 tyX2_ok nmX2 hown hK hP hD hS 1 rfl rfl 7 (by decide) w_4 rfl rfl rfl rfl (Nat.le_of_ble_eq_true rfl) rfl dX2_readWord_162 (fun H locs hP hD hS => ?_)
              exact k_rv B hP hD hS dX2_readWord_165 ((fun k9 => match k9 with | 0 => j4_F0_4 | 1 => 258 | 2 => y_161p12p107 | 3 => v0_9 | 4 => v0_10 | _ => 0), (fun _ => 0), (fun _ => (fun _ => 0)), (fun _ => (fun _ => 0)), (fun _ => 0)) [1, 0, 2] rfl rfl (Nat.le_of_ble_eq_true rfl) (Nat.le_of_ble_eq_true rfl) ⟨(show iR j4_F0_4 0 1600 from hj4_F0_4), (show iR 258 258 324 from (iR_c (n := 258) (a := 258) (b := 324) (by decide +kernel) (by decide +kernel))), (show iR v0_9 0 6 from (iR_w hxv0_9 (by decide +kernel))), (show XW f0_0 g0_1 v0_3.toNatClampNeg v0_5 v0_7 v0_10 j4_F0_4 258 y_161p12p107 v0_9 v0_10 from ⟨((rn_e (Or.inl (i_leN c_12 hv0_3 hj4_F0_4 (by decide +kernel)))).symm.trans p4_0), r_107p12, Or.inr ⟨(by rw [← (i_subN ey_91p12 v4_0 hj4_F0_4 hv0_5 (by decide +kernel))]; exact i_leL9 c_98p12 f_152p12p107_4 (by decide +kernel)), by rw [← ((fK_e (Or.inl (i_leN c_12 hv0_3 hj4_F0_4 (by decide +kernel)))).symm.trans p4_1)]; exact g_107p12_1⟩, Or.inr (Or.inr ⟨c_114p12p107, (by rw [← (i_subN ey_91p12 v4_0 hj4_F0_4 hv0_5 (by decide +kernel))]; exact i_leL9 c_134p12p107 f_152p12p107_4 (by decide +kernel)), rfl, by rw [← ((fK_e (Or.inl (i_leN c_12 hv0_3 hj4_F0_4 (by decide +kernel)))).symm.trans p4_1)]; exact ey_161p12p107, (i_eqc hxv0_9 (iR_c (n := 0) (a := 0) (b := 0) (by decide +kernel) (by decide +kernel))), rfl⟩)⟩), (show (0 : Int32) < v0_9 → (0 : Int32) < v0_9 from (fun h => h)), (show (v0_9 = 0) ∨ ((258 = 259)) from (Or.inl (i_eqc hxv0_9 (iR_c (n := 0) (a := 0) (b := 0) (by decide +kernel) (by decide +kernel)))))⟩
            · have c_134p12p107 : 6 < y_91p12 := i_nle c_134p12p107
              have f_137p12p107_4 : iR y_91p12 7 7 := iR_ltR c_134p12p107 (iR_c (n := 6) (a := 6) (b := 6) (by decide +kernel) (by decide +kernel)) f_105p12_2 (by decide +kernel)
              refine lv_aload_n hx hb dX2_readWord_137 rfl (lv_at hl 2 rfl) ?_
              refine lv_iconst (v := 1) hx hb dX2_readWord_138 (by decide +kernel) ?_
              refine lv_aload_n hx hb dX2_readWord_139 rfl (lv_at hl 2 rfl) ?_
              refine k_get (D := (dC, dI)) (ci := 2) (v := .int v0_5) (C := RX2) (T := TX2) (N := 11) hx hb hts hinX2 hown hK hP 1 rfl rfl 5 (by decide) w_2 rfl rfl dX2_readWord_140 ?_
              refine lv_bipush (v := 6) hx hb dX2_readWord_143 (by decide +kernel) ?_
              refine lv_iadd hx hb dX2_readWord_145 ?_
              refine lv_topi (fun y_145p12p107 ey_145p12p107 => ?_)
              have xy_145p12p107 : y_145p12p107.toInt = v0_5.toInt + 6 := i_add ey_145p12p107 hv0_5 (iR_c (n := 6) (a := 6) (b := 6) (by decide +kernel) (by decide +kernel)) (by decide +kernel)
              have f_145p12p107_5 : iR y_145p12p107 6 1606 := iR_add ey_145p12p107 hv0_5 (iR_c (n := 6) (a := 6) (b := 6) (by decide +kernel) (by decide +kernel)) (by decide +kernel)
              refine k_cv (wc := [(a0, .inr (2, [.ref a0_0, .ref a0_1, .ref b0_2, .int v0_3, .int j4_F0_4, .int v0_5, .int v0_6, .int v0_7, .int 0, .int v0_9, .int v0_10]))]) (wr := [(a0_0, .inl (cI, 1600, .inl f0_0)), (a0_1, .inl (cJ, 25, .inr (.inl g0_1)))]) (fun hPc hDc hFc => va_runV (As := [.int 1, .int y_145p12p107]) (rest := []) ⟨hx, hb, hml, hown, hts⟩ (s_X2_blame_v2 l dC dI cI cJ cZ cM a0 1 y_145p12p107 a0_0 a0_1 b0_2 v0_3 j4_F0_4 v0_5 v0_6 v0_7 v0_9 v0_10 (iR_c (n := 1) (a := 1) (b := 6) (by decide +kernel) (by decide +kernel)) hv0_3 hj4_F0_4 hv0_5 hv0_6 (iR_w hxv0_9 (by decide +kernel)) hpg0 H.size) (cwV 2 hts gX2_readWord_X2_blame rfl rfl rfl (by decide +kernel) ⟨(Nat.le_of_ble_eq_true rfl), (Nat.le_of_ble_eq_true rfl)⟩) (k_pV hPc hDc hK hN hC hS hFc hP (q0 := 1) (ci := 2) rfl rfl) rfl rfl hl.1 rfl (lv_room (Nat.le_of_ble_eq_true rfl)) dX2_readWord_146 ⟨(Nat.le_of_ble_eq_true rfl), (Nat.le_of_ble_eq_true rfl)⟩) hP hD hS hA [1] [0, 2] rfl rfl rfl rfl (by decide) (fun _ => rfl) 0 0 rfl rfl (fun u_146p12p107 H locs hw hP hD hS => ?_)
              obtain ⟨g_146p12p107_0, g_146p12p107_1, g_146p12p107_2, g_146p12p107_3, g_146p12p107_4⟩ := hw
              have hP : va_P (dC, dI) vwCl [(a0_0, .inl (cI, 1600, .inl f0_0)), (a0_1, .inl (cJ, 25, .inr (.inl g0_1))), (a0, .inr (2, [.ref a0_0, .ref a0_1, .ref b0_2, .int v0_3, .int j4_F0_4, .int v0_5, .int (u_146p12p107.1 0), .int v0_7, .int 0, .int (u_146p12p107.1 1), .int (u_146p12p107.1 2)]))] H := hP
              have hD : va_D A [(a0_0, .inl (cI, 1600, .inl f0_0)), (a0_1, .inl (cJ, 25, .inr (.inl g0_1))), (a0, .inr (2, [.ref a0_0, .ref a0_1, .ref b0_2, .int v0_3, .int j4_F0_4, .int v0_5, .int (u_146p12p107.1 0), .int v0_7, .int 0, .int (u_146p12p107.1 1), .int (u_146p12p107.1 2)]))] := hD
              have g_146p12p107_2 : BL v0_6 v0_9 v0_10 1 y_145p12p107 (u_146p12p107.1 0) (u_146p12p107.1 1) (u_146p12p107.1 2) := g_146p12p107_2
              have g_146p12p107_3 : (0 : Int32) < v0_9 → (0 : Int32) < (u_146p12p107.1 1) := g_146p12p107_3
              have g_146p12p107_4 : ((u_146p12p107.1 1) = 0) ∨ (((u_146p12p107.1 0) = 259)) := g_146p12p107_4
              obtain d146p12p107_1_0 := g_146p12p107_4.resolve_left (i_nef g_146p12p107_1 (iR_c (n := 0) (a := 0) (b := 0) (by decide +kernel) (by decide +kernel)) (by decide +kernel))
              refine lv_goto (tgt := 165) hx hb dX2_readWord_149 (by decide) ?_
              exact k_rv B hP hD hS dX2_readWord_165 ((fun k9 => match k9 with | 0 => j4_F0_4 | 1 => (u_146p12p107.1 0) | 2 => v0_7 | 3 => (u_146p12p107.1 1) | 4 => (u_146p12p107.1 2) | _ => 0), (fun _ => 0), (fun _ => (fun _ => 0)), (fun _ => (fun _ => 0)), (fun _ => 0)) [2, 0, 1] rfl rfl (Nat.le_of_ble_eq_true rfl) (Nat.le_of_ble_eq_true rfl) ⟨(show iR j4_F0_4 0 1600 from hj4_F0_4), (show iR (u_146p12p107.1 0) 258 324 from (iR_w g_146p12p107_0 (by decide +kernel))), (show iR (u_146p12p107.1 1) 0 6 from (iR_w g_146p12p107_1 (by decide +kernel))), (show XW f0_0 g0_1 v0_3.toNatClampNeg v0_5 v0_7 v0_10 j4_F0_4 (u_146p12p107.1 0) v0_7 (u_146p12p107.1 1) (u_146p12p107.1 2) from ⟨((rn_e (Or.inl (i_leN c_12 hv0_3 hj4_F0_4 (by decide +kernel)))).symm.trans p4_0), r_107p12, Or.inr ⟨(by rw [← (i_subN ey_91p12 v4_0 hj4_F0_4 hv0_5 (by decide +kernel))]; exact i_leL9 c_98p12 f_137p12p107_4 (by decide +kernel)), by rw [← ((fK_e (Or.inl (i_leN c_12 hv0_3 hj4_F0_4 (by decide +kernel)))).symm.trans p4_1)]; exact g_107p12_1⟩, Or.inr (Or.inl ⟨c_114p12p107, (by rw [← (i_subN ey_91p12 v4_0 hj4_F0_4 hv0_5 (by decide +kernel))]; exact i_gtL c_134p12p107 f_137p12p107_4 (by decide +kernel)), (g_146p12p107_2.resolve_right (fun q9 => q9.1 (i_eqc hxv0_9 (iR_c (n := 0) (a := 0) (b := 0) (by decide +kernel) (by decide +kernel))))).2.1, rfl, (g_146p12p107_2.resolve_right (fun q9 => q9.1 (i_eqc hxv0_9 (iR_c (n := 0) (a := 0) (b := 0) (by decide +kernel) (by decide +kernel))))).2.2.1, (g_146p12p107_2.resolve_right (fun q9 => q9.1 (i_eqc hxv0_9 (iR_c (n := 0) (a := 0) (b := 0) (by decide +kernel) (by decide +kernel))))).2.2.2.trans ey_145p12p107⟩)⟩), (show (0 : Int32) < v0_9 → (0 : Int32) < (u_146p12p107.1 1) from (fun h => g_146p12p107_3 ((fun h => h) h))), (show ((u_146p12p107.1 1) = 0) ∨ (((u_146p12p107.1 0) = 259)) from (Or.inr d146p12p107_1_0))⟩
          · have c_114p12p107 : 0 ≤ r_107p12 := i_nlt c_114p12p107
            have f_117p12p107_3 : iR r_107p12 0 24 := iR_leR c_114p12p107 (iR_c (n := 0) (a := 0) (b := 0) (by decide +kernel) (by decide +kernel)) g_107p12_0 (by decide +kernel)
            refine lv_aload_n hx hb dX2_readWord_117 rfl (lv_at hl 2 rfl) ?_
            refine lv_sipush (v := 300) hx hb dX2_readWord_118 (by decide +kernel) ?_
            refine lv_iload hx hb dX2_readWord_121 (lv_at hl 0 rfl) ?_
            refine lv_iadd hx hb dX2_readWord_123 ?_
            refine lv_topi (fun y_123p12p107 ey_123p12p107 => ?_)
            have xy_123p12p107 : y_123p12p107.toInt = 300 + r_107p12.toInt := i_add ey_123p12p107 (iR_c (n := 300) (a := 300) (b := 300) (by decide +kernel) (by decide +kernel)) f_117p12p107_3 (by decide +kernel)
            have f_123p12p107_4 : iR y_123p12p107 300 324 := iR_add ey_123p12p107 (iR_c (n := 300) (a := 300) (b := 300) (by decide +kernel) (by decide +kernel)) f_117p12p107_3 (by decide +kernel)
            refine k_put (D := (dC, dI)) (ci := 2) (v := .int y_123p12p107) (C := RX2) (T := TX2) (N := 11) (ws' := [(a0_0, .inl (cI, 1600, .inl f0_0)), (a0, .inr (2, [.ref a0_0, .ref a0_1, .ref b0_2, .int v0_3, .int j4_F0_4, .int v0_5, .int y_123p12p107, .int v0_7, .int 0, .int v0_9, .int v0_10])), (a0_1, .inl (cJ, 25, .inr (.inl g0_1)))]) hx hb hts hinX2 tyX2 tyX2_ok nmX2 hown hK hP hD hS 1 rfl rfl 6 (by decide) w_3 rfl rfl rfl rfl (Nat.le_of_ble_eq_true rfl) rfl dX2_readWord_124 (fun H locs hP hD hS => ?_)
            refine lv_goto (tgt := 165) hx hb dX2_readWord_127 (by decide) ?_
            exact k_rv B hP hD hS dX2_readWord_165 ((fun k9 => match k9 with | 0 => j4_F0_4 | 1 => y_123p12p107 | 2 => v0_7 | 3 => v0_9 | 4 => v0_10 | _ => 0), (fun _ => 0), (fun _ => (fun _ => 0)), (fun _ => (fun _ => 0)), (fun _ => 0)) [1, 0, 2] rfl rfl (Nat.le_of_ble_eq_true rfl) (Nat.le_of_ble_eq_true rfl) ⟨(show iR j4_F0_4 0 1600 from hj4_F0_4), (show iR y_123p12p107 258 324 from (iR_w f_123p12p107_4 (by decide +kernel))), (show iR v0_9 0 6 from (iR_w hxv0_9 (by decide +kernel))), (show XW f0_0 g0_1 v0_3.toNatClampNeg v0_5 v0_7 v0_10 j4_F0_4 y_123p12p107 v0_7 v0_9 v0_10 from ⟨((rn_e (Or.inl (i_leN c_12 hv0_3 hj4_F0_4 (by decide +kernel)))).symm.trans p4_0), r_107p12, Or.inr ⟨(by rw [← (i_subN ey_91p12 v4_0 hj4_F0_4 hv0_5 (by decide +kernel))]; exact i_leL9 c_98p12 f_105p12_2 (by decide +kernel)), by rw [← ((fK_e (Or.inl (i_leN c_12 hv0_3 hj4_F0_4 (by decide +kernel)))).symm.trans p4_1)]; exact g_107p12_1⟩, Or.inl ⟨c_114p12p107, ey_123p12p107, rfl, (i_eqc hxv0_9 (iR_c (n := 0) (a := 0) (b := 0) (by decide +kernel) (by decide +kernel))), rfl⟩⟩), (show (0 : Int32) < v0_9 → (0 : Int32) < v0_9 from (fun h => h)), (show (v0_9 = 0) ∨ ((y_123p12p107 = 259)) from (Or.inl (i_eqc hxv0_9 (iR_c (n := 0) (a := 0) (b := 0) (by decide +kernel) (by decide +kernel)))))⟩
        · have c_98p12 : 7 < y_91p12 := i_nle c_98p12
          have f_101p12_2 : iR y_91p12 8 1600 := iR_ltR c_98p12 (iR_c (n := 7) (a := 7) (b := 7) (by decide +kernel) (by decide +kernel)) f_91p12_1 (by decide +kernel)
          refine lv_iconst (v := (-1)) hx hb dX2_readWord_101 (by decide +kernel) ?_
          refine lv_goto (tgt := 110) hx hb dX2_readWord_102 (by decide) ?_
          refine lv_istore (lv' := [(6, .int (-1)), (5, .int y_91p12), (0, .ref a0), (1, .long j4_L1), (3, .long j4_L3)]) hx hb dX2_readWord_110 hl (by decide) rfl (fun ls hl => ?_)
          refine lv_iload hx hb dX2_readWord_112 (lv_at hl 0 rfl) ?_
          refine lv_if_lt (tgt := 130) hx hb dX2_readWord_114 (by decide) (fun _ => ?_) (fun q9 => absurd q9 (by decide +kernel))
          refine lv_iload hx hb dX2_readWord_130 (lv_at hl 1 rfl) ?_
          refine lv_bipush (v := 6) hx hb dX2_readWord_132 (by decide +kernel) ?_
          refine lv_icmp_le (tgt := 152) hx hb dX2_readWord_134 (by decide) (fun c_134p12p102 => ?_) (fun c_134p12p102 => ?_)
          · exact iR_cl (iR_leL (a' := 8) (b' := 6) c_134p12p102 f_101p12_2 (iR_c (n := 6) (a := 6) (b := 6) (by decide +kernel) (by decide +kernel)) (by decide +kernel)) (by decide +kernel)
          · have c_134p12p102 : 6 < y_91p12 := i_nle c_134p12p102
            refine lv_aload_n hx hb dX2_readWord_137 rfl (lv_at hl 2 rfl) ?_
            refine lv_iconst (v := 1) hx hb dX2_readWord_138 (by decide +kernel) ?_
            refine lv_aload_n hx hb dX2_readWord_139 rfl (lv_at hl 2 rfl) ?_
            refine k_get (D := (dC, dI)) (ci := 2) (v := .int v0_5) (C := RX2) (T := TX2) (N := 11) hx hb hts hinX2 hown hK hP 0 rfl rfl 5 (by decide) w_2 rfl rfl dX2_readWord_140 ?_
            refine lv_bipush (v := 6) hx hb dX2_readWord_143 (by decide +kernel) ?_
            refine lv_iadd hx hb dX2_readWord_145 ?_
            refine lv_topi (fun y_145p12p102 ey_145p12p102 => ?_)
            have xy_145p12p102 : y_145p12p102.toInt = v0_5.toInt + 6 := i_add ey_145p12p102 hv0_5 (iR_c (n := 6) (a := 6) (b := 6) (by decide +kernel) (by decide +kernel)) (by decide +kernel)
            have f_145p12p102_3 : iR y_145p12p102 6 1606 := iR_add ey_145p12p102 hv0_5 (iR_c (n := 6) (a := 6) (b := 6) (by decide +kernel) (by decide +kernel)) (by decide +kernel)
            refine k_cv (wc := [(a0, .inr (2, [.ref a0_0, .ref a0_1, .ref b0_2, .int v0_3, .int j4_F0_4, .int v0_5, .int v0_6, .int v0_7, .int 0, .int v0_9, .int v0_10]))]) (wr := [(a0_0, .inl (cI, 1600, .inl f0_0)), (a0_1, .inl (cJ, 25, .inr (.inl g0_1)))]) (fun hPc hDc hFc => va_runV (As := [.int 1, .int y_145p12p102]) (rest := []) ⟨hx, hb, hml, hown, hts⟩ (s_X2_blame_v2 l dC dI cI cJ cZ cM a0 1 y_145p12p102 a0_0 a0_1 b0_2 v0_3 j4_F0_4 v0_5 v0_6 v0_7 v0_9 v0_10 (iR_c (n := 1) (a := 1) (b := 6) (by decide +kernel) (by decide +kernel)) hv0_3 hj4_F0_4 hv0_5 hv0_6 (iR_w hxv0_9 (by decide +kernel)) hpg0 H.size) (cwV 2 hts gX2_readWord_X2_blame rfl rfl rfl (by decide +kernel) ⟨(Nat.le_of_ble_eq_true rfl), (Nat.le_of_ble_eq_true rfl)⟩) (k_pV hPc hDc hK hN hC hS hFc hP (q0 := 0) (ci := 2) rfl rfl) rfl rfl hl.1 rfl (lv_room (Nat.le_of_ble_eq_true rfl)) dX2_readWord_146 ⟨(Nat.le_of_ble_eq_true rfl), (Nat.le_of_ble_eq_true rfl)⟩) hP hD hS hA [0] [1, 2] rfl rfl rfl rfl (by decide) (fun _ => rfl) 0 0 rfl rfl (fun u_146p12p102 H locs hw hP hD hS => ?_)
            obtain ⟨g_146p12p102_0, g_146p12p102_1, g_146p12p102_2, g_146p12p102_3, g_146p12p102_4⟩ := hw
            have hP : va_P (dC, dI) vwCl [(a0_0, .inl (cI, 1600, .inl f0_0)), (a0_1, .inl (cJ, 25, .inr (.inl g0_1))), (a0, .inr (2, [.ref a0_0, .ref a0_1, .ref b0_2, .int v0_3, .int j4_F0_4, .int v0_5, .int (u_146p12p102.1 0), .int v0_7, .int 0, .int (u_146p12p102.1 1), .int (u_146p12p102.1 2)]))] H := hP
            have hD : va_D A [(a0_0, .inl (cI, 1600, .inl f0_0)), (a0_1, .inl (cJ, 25, .inr (.inl g0_1))), (a0, .inr (2, [.ref a0_0, .ref a0_1, .ref b0_2, .int v0_3, .int j4_F0_4, .int v0_5, .int (u_146p12p102.1 0), .int v0_7, .int 0, .int (u_146p12p102.1 1), .int (u_146p12p102.1 2)]))] := hD
            have g_146p12p102_2 : BL v0_6 v0_9 v0_10 1 y_145p12p102 (u_146p12p102.1 0) (u_146p12p102.1 1) (u_146p12p102.1 2) := g_146p12p102_2
            have g_146p12p102_3 : (0 : Int32) < v0_9 → (0 : Int32) < (u_146p12p102.1 1) := g_146p12p102_3
            have g_146p12p102_4 : ((u_146p12p102.1 1) = 0) ∨ (((u_146p12p102.1 0) = 259)) := g_146p12p102_4
            obtain d146p12p102_1_0 := g_146p12p102_4.resolve_left (i_nef g_146p12p102_1 (iR_c (n := 0) (a := 0) (b := 0) (by decide +kernel) (by decide +kernel)) (by decide +kernel))
            refine lv_goto (tgt := 165) hx hb dX2_readWord_149 (by decide) ?_
            exact k_rv B hP hD hS dX2_readWord_165 ((fun k9 => match k9 with | 0 => j4_F0_4 | 1 => (u_146p12p102.1 0) | 2 => v0_7 | 3 => (u_146p12p102.1 1) | 4 => (u_146p12p102.1 2) | _ => 0), (fun _ => 0), (fun _ => (fun _ => 0)), (fun _ => (fun _ => 0)), (fun _ => 0)) [2, 0, 1] rfl rfl (Nat.le_of_ble_eq_true rfl) (Nat.le_of_ble_eq_true rfl) ⟨(show iR j4_F0_4 0 1600 from hj4_F0_4), (show iR (u_146p12p102.1 0) 258 324 from (iR_w g_146p12p102_0 (by decide +kernel))), (show iR (u_146p12p102.1 1) 0 6 from (iR_w g_146p12p102_1 (by decide +kernel))), (show XW f0_0 g0_1 v0_3.toNatClampNeg v0_5 v0_7 v0_10 j4_F0_4 (u_146p12p102.1 0) v0_7 (u_146p12p102.1 1) (u_146p12p102.1 2) from ⟨((rn_e (Or.inl (i_leN c_12 hv0_3 hj4_F0_4 (by decide +kernel)))).symm.trans p4_0), (-1), Or.inl ⟨rfl, (by rw [← (i_subN ey_91p12 v4_0 hj4_F0_4 hv0_5 (by decide +kernel))]; exact i_gtL c_98p12 f_101p12_2 (by decide +kernel))⟩, Or.inr (Or.inl ⟨(by decide), (by rw [← (i_subN ey_91p12 v4_0 hj4_F0_4 hv0_5 (by decide +kernel))]; exact i_gtL c_134p12p102 f_101p12_2 (by decide +kernel)), (g_146p12p102_2.resolve_right (fun q9 => q9.1 (i_eqc hxv0_9 (iR_c (n := 0) (a := 0) (b := 0) (by decide +kernel) (by decide +kernel))))).2.1, rfl, (g_146p12p102_2.resolve_right (fun q9 => q9.1 (i_eqc hxv0_9 (iR_c (n := 0) (a := 0) (b := 0) (by decide +kernel) (by decide +kernel))))).2.2.1, (g_146p12p102_2.resolve_right (fun q9 => q9.1 (i_eqc hxv0_9 (iR_c (n := 0) (a := 0) (b := 0) (by decide +kernel) (by decide +kernel))))).2.2.2.trans ey_145p12p102⟩)⟩), (show (0 : Int32) < v0_9 → (0 : Int32) < (u_146p12p102.1 1) from (fun h => g_146p12p102_3 ((fun h => h) h))), (show ((u_146p12p102.1 1) = 0) ∨ (((u_146p12p102.1 0) = 259)) from (Or.inr d146p12p102_1_0))⟩
      · have c_12 : j4_F0_4 < v0_3 := i_nle c_12
        have f_15_1 : iR j4_F0_4 0 1599 := iR_ltL c_12 hj4_F0_4 hv0_3 (by decide +kernel)
        have f_15_2 : iR v0_3 1 1600 := iR_ltR c_12 hj4_F0_4 hv0_3 (by decide +kernel)
        refine lv_aload_n hx hb dX2_readWord_15 rfl (lv_at hl 0 rfl) ?_
        refine k_get (D := (dC, dI)) (ci := 2) (v := .ref a0_0) (C := RX2) (T := TX2) (N := 11) hx hb hts hinX2 hown hK hP 0 rfl rfl 0 (by decide) w_5 rfl rfl dX2_readWord_16 ?_
        refine lv_aload_n hx hb dX2_readWord_19 rfl (lv_at hl 0 rfl) ?_
        refine k_get (D := (dC, dI)) (ci := 2) (v := .int j4_F0_4) (C := RX2) (T := TX2) (N := 11) hx hb hts hinX2 hown hK hP 0 rfl rfl 4 (by decide) w_0 rfl rfl dX2_readWord_20 ?_
        refine va_iald hx hb hK hP 1 0 rfl rfl (iR_vp f_15_1 (by decide +kernel)) dX2_readWord_23 ?_
        have f_23_3 : iR (f0_0 j4_F0_4.toNatClampNeg) 0 255 := hf0_0 _
        refine k_ci (wc := []) (wr := [(a0, .inr (2, [.ref a0_0, .ref a0_1, .ref b0_2, .int v0_3, .int j4_F0_4, .int v0_5, .int v0_6, .int v0_7, .int 0, .int v0_9, .int v0_10])), (a0_0, .inl (cI, 1600, .inl f0_0)), (a0_1, .inl (cJ, 25, .inr (.inl g0_1)))]) (fun hPc hDc hFc => va_runS (As := [.int (f0_0 j4_F0_4.toNatClampNeg)]) (rest := []) ⟨hx, hb, hml, hown, hts⟩ (s_X2_isLetter_v0 l dC dI cI cJ cZ cM (f0_0 j4_F0_4.toNatClampNeg) H.size) (va_cwS 1 hts gX2_readWord_X2_isLetter rfl rfl rfl (by decide +kernel) ⟨(Nat.le_of_ble_eq_true rfl), (Nat.le_of_ble_eq_true rfl)⟩) (k_pS hPc hDc hK hN hC hS hFc) rfl rfl hl.1 rfl (lv_room (Nat.le_of_ble_eq_true rfl)) dX2_readWord_24 ⟨(Nat.le_of_ble_eq_true rfl), (Nat.le_of_ble_eq_true rfl)⟩) hP hD hS hA [] [0, 1, 2] rfl rfl rfl rfl (by decide) (fun _ => rfl) 0 0 rfl rfl (fun r_24 u_24 H locs hw hP hD hS => ?_)
        obtain ⟨g_24_0, g_24_1⟩ := hw
        have hP : va_P (dC, dI) vwCl [(a0, .inr (2, [.ref a0_0, .ref a0_1, .ref b0_2, .int v0_3, .int j4_F0_4, .int v0_5, .int v0_6, .int v0_7, .int 0, .int v0_9, .int v0_10])), (a0_0, .inl (cI, 1600, .inl f0_0)), (a0_1, .inl (cJ, 25, .inr (.inl g0_1)))] H := hP
        have hD : va_D A [(a0, .inr (2, [.ref a0_0, .ref a0_1, .ref b0_2, .int v0_3, .int j4_F0_4, .int v0_5, .int v0_6, .int v0_7, .int 0, .int v0_9, .int v0_10])), (a0_0, .inl (cI, 1600, .inl f0_0)), (a0_1, .inl (cJ, 25, .inr (.inl g0_1)))] := hD
        have g_24_1 : r_24 = bI (cL (f0_0 j4_F0_4.toNatClampNeg)) := g_24_1
        refine lv_if_eq (tgt := 83) hx hb dX2_readWord_27 (by decide) (fun c_27 => ?_) (fun c_27 => ?_)
        · have c_27 : r_24 = 0 := c_27
          have f_83_4 : iR r_24 0 0 := iR_eqL c_27 g_24_0 (iR_c (n := 0) (a := 0) (b := 0) (by decide +kernel) (by decide +kernel)) (by decide +kernel)
          refine lv_aload_n hx hb dX2_readWord_83 rfl (lv_at hl 0 rfl) ?_
          refine k_get (D := (dC, dI)) (ci := 2) (v := .int j4_F0_4) (C := RX2) (T := TX2) (N := 11) hx hb hts hinX2 hown hK hP 0 rfl rfl 4 (by decide) w_0 rfl rfl dX2_readWord_84 ?_
          refine lv_aload_n hx hb dX2_readWord_87 rfl (lv_at hl 0 rfl) ?_
          refine k_get (D := (dC, dI)) (ci := 2) (v := .int v0_5) (C := RX2) (T := TX2) (N := 11) hx hb hts hinX2 hown hK hP 0 rfl rfl 5 (by decide) w_2 rfl rfl dX2_readWord_88 ?_
          refine lv_isub hx hb dX2_readWord_91 ?_
          refine lv_topi (fun y_91p27 ey_91p27 => ?_)
          have xy_91p27 : y_91p27.toInt = j4_F0_4.toInt - v0_5.toInt := i_sub ey_91p27 f_15_1 hv0_5 (by decide +kernel)
          have f_91p27_5 : iR y_91p27 0 1599 := iR_subge ey_91p27 v4_0 f_15_1 hv0_5 (by decide +kernel)
          refine lv_istore (lv' := [(5, .int y_91p27), (0, .ref a0), (1, .long j4_L1), (3, .long j4_L3)]) hx hb dX2_readWord_92 hl (by decide) rfl (fun ls hl => ?_)
          refine lv_iload hx hb dX2_readWord_94 (lv_at hl 0 rfl) ?_
          refine lv_bipush (v := 7) hx hb dX2_readWord_96 (by decide +kernel) ?_
          refine lv_icmp_le (tgt := 105) hx hb dX2_readWord_98 (by decide) (fun c_98p27 => ?_) (fun c_98p27 => ?_)
          · have c_98p27 : y_91p27 ≤ 7 := c_98p27
            have f_105p27_6 : iR y_91p27 0 7 := iR_leL c_98p27 f_91p27_5 (iR_c (n := 7) (a := 7) (b := 7) (by decide +kernel) (by decide +kernel)) (by decide +kernel)
            refine lv_aload_n hx hb dX2_readWord_105 rfl (lv_at hl 1 rfl) ?_
            refine lv_lload_n hx hb dX2_readWord_106 rfl (lv_at hl 2 rfl) ?_
            refine k_ci (wc := [(a0, .inr (2, [.ref a0_0, .ref a0_1, .ref b0_2, .int v0_3, .int j4_F0_4, .int v0_5, .int v0_6, .int v0_7, .int 0, .int v0_9, .int v0_10])), (a0_1, .inl (cJ, 25, .inr (.inl g0_1)))]) (wr := [(a0_0, .inl (cI, 1600, .inl f0_0))]) (fun hPc hDc hFc => va_runV (As := [.long j4_L1]) (rest := []) ⟨hx, hb, hml, hown, hts⟩ (s_X2_ownIndex_v1 l dC dI cI cJ cZ cM a0 j4_L1 a0_0 a0_1 g0_1 b0_2 v0_3 j4_F0_4 v0_5 v0_6 v0_7 v0_9 v0_10 (iR_w f_15_2 (by decide +kernel)) (iR_w f_15_1 (by decide +kernel)) hv0_5 hv0_6 (iR_w hxv0_9 (by decide +kernel)) H.size) (cwV 1 hts gX2_readWord_X2_ownIndex rfl rfl rfl (by decide +kernel) ⟨(Nat.le_of_ble_eq_true rfl), (Nat.le_of_ble_eq_true rfl)⟩) (k_pV hPc hDc hK hN hC hS hFc hP (q0 := 0) (ci := 2) rfl rfl) rfl rfl hl.1 rfl (lv_room (Nat.le_of_ble_eq_true rfl)) dX2_readWord_107 ⟨(Nat.le_of_ble_eq_true rfl), (Nat.le_of_ble_eq_true rfl)⟩) hP hD hS hA [0, 2] [1] rfl rfl rfl rfl (by decide) (fun _ => rfl) 0 0 rfl rfl (fun r_107p27 u_107p27 H locs hw hP hD hS => ?_)
            obtain ⟨g_107p27_0, g_107p27_1⟩ := hw
            have hP : va_P (dC, dI) vwCl [(a0_0, .inl (cI, 1600, .inl f0_0)), (a0, .inr (2, [.ref a0_0, .ref a0_1, .ref b0_2, .int v0_3, .int j4_F0_4, .int v0_5, .int v0_6, .int v0_7, .int 0, .int v0_9, .int v0_10])), (a0_1, .inl (cJ, 25, .inr (.inl g0_1)))] H := hP
            have hD : va_D A [(a0_0, .inl (cI, 1600, .inl f0_0)), (a0, .inr (2, [.ref a0_0, .ref a0_1, .ref b0_2, .int v0_3, .int j4_F0_4, .int v0_5, .int v0_6, .int v0_7, .int 0, .int v0_9, .int v0_10])), (a0_1, .inl (cJ, 25, .inr (.inl g0_1)))] := hD
            have g_107p27_1 : IX g0_1 j4_L1 r_107p27 := g_107p27_1
            refine lv_istore (lv' := [(6, .int r_107p27), (5, .int y_91p27), (0, .ref a0), (1, .long j4_L1), (3, .long j4_L3)]) hx hb dX2_readWord_110 hl (by decide) rfl (fun ls hl => ?_)
            refine lv_iload hx hb dX2_readWord_112 (lv_at hl 0 rfl) ?_
            refine lv_if_lt (tgt := 130) hx hb dX2_readWord_114 (by decide) (fun c_114p27p107 => ?_) (fun c_114p27p107 => ?_)
            · have c_114p27p107 : r_107p27 < 0 := c_114p27p107
              have f_130p27p107_7 : iR r_107p27 (-1) (-1) := iR_ltL c_114p27p107 g_107p27_0 (iR_c (n := 0) (a := 0) (b := 0) (by decide +kernel) (by decide +kernel)) (by decide +kernel)
              refine lv_iload hx hb dX2_readWord_130 (lv_at hl 1 rfl) ?_
              refine lv_bipush (v := 6) hx hb dX2_readWord_132 (by decide +kernel) ?_
              refine lv_icmp_le (tgt := 152) hx hb dX2_readWord_134 (by decide) (fun c_134p27p107 => ?_) (fun c_134p27p107 => ?_)
              · have c_134p27p107 : y_91p27 ≤ 6 := c_134p27p107
                have f_152p27p107_8 : iR y_91p27 0 6 := iR_leL c_134p27p107 f_105p27_6 (iR_c (n := 6) (a := 6) (b := 6) (by decide +kernel) (by decide +kernel)) (by decide +kernel)
                refine lv_aload_n hx hb dX2_readWord_152 rfl (lv_at hl 2 rfl) ?_
                refine lv_sipush (v := 258) hx hb dX2_readWord_153 (by decide +kernel) ?_
                refine k_put (D := (dC, dI)) (ci := 2) (v := .int 258) (C := RX2) (T := TX2) (N := 11) (ws' := [(a0_0, .inl (cI, 1600, .inl f0_0)), (a0, .inr (2, [.ref a0_0, .ref a0_1, .ref b0_2, .int v0_3, .int j4_F0_4, .int v0_5, .int 258, .int v0_7, .int 0, .int v0_9, .int v0_10])), (a0_1, .inl (cJ, 25, .inr (.inl g0_1)))]) hx hb hts hinX2 tyX2 tyX2_ok nmX2 hown hK hP hD hS 1 rfl rfl 6 (by decide) w_3 rfl rfl rfl rfl (Nat.le_of_ble_eq_true rfl) rfl dX2_readWord_156 (fun H locs hP hD hS => ?_)
                refine lv_aload_n hx hb dX2_readWord_159 rfl (lv_at hl 2 rfl) ?_
                refine lv_lload_n hx hb dX2_readWord_160 rfl (lv_at hl 3 rfl) ?_
                refine lv_l2i (v := j4_L1.toInt32) hx hb dX2_readWord_161 rfl ?_
                refine lv_topi (fun y_161p27p107 ey_161p27p107 => ?_)
                refine k_put (D := (dC, dI)) (ci := 2) (v := .int y_161p27p107) (C := RX2) (T := TX2) (N := 11) (ws' := [(a0_0, .inl (cI, 1600, .inl f0_0)), (a0, .inr (2, [.ref a0_0, .ref a0_1, .ref b0_2, .int v0_3, .int j4_F0_4, .int v0_5, .int 258, .int y_161p27p107, .int 0, .int v0_9, .int v0_10])), (a0_1, .inl (cJ, 25, .inr (.inl g0_1)))]) hx hb hts hinX2 tyX2 tyX2_ok nmX2 hown hK hP hD hS 1 rfl rfl 7 (by decide) w_4 rfl rfl rfl rfl (Nat.le_of_ble_eq_true rfl) rfl dX2_readWord_162 (fun H locs hP hD hS => ?_)
                exact k_rv B hP hD hS dX2_readWord_165 ((fun k9 => match k9 with | 0 => j4_F0_4 | 1 => 258 | 2 => y_161p27p107 | 3 => v0_9 | 4 => v0_10 | _ => 0), (fun _ => 0), (fun _ => (fun _ => 0)), (fun _ => (fun _ => 0)), (fun _ => 0)) [1, 0, 2] rfl rfl (Nat.le_of_ble_eq_true rfl) (Nat.le_of_ble_eq_true rfl) ⟨(show iR j4_F0_4 0 1600 from (iR_w f_15_1 (by decide +kernel))), (show iR 258 258 324 from (iR_c (n := 258) (a := 258) (b := 324) (by decide +kernel) (by decide +kernel))), (show iR v0_9 0 6 from (iR_w hxv0_9 (by decide +kernel))), (show XW f0_0 g0_1 v0_3.toNatClampNeg v0_5 v0_7 v0_10 j4_F0_4 258 y_161p27p107 v0_9 v0_10 from ⟨((rn_e (Or.inr (bI_f g_24_1 c_27))).symm.trans p4_0), r_107p27, Or.inr ⟨(by rw [← (i_subN ey_91p27 v4_0 f_15_1 hv0_5 (by decide +kernel))]; exact i_leL9 c_98p27 f_152p27p107_8 (by decide +kernel)), by rw [← ((fK_e (Or.inr (bI_f g_24_1 c_27))).symm.trans p4_1)]; exact g_107p27_1⟩, Or.inr (Or.inr ⟨c_114p27p107, (by rw [← (i_subN ey_91p27 v4_0 f_15_1 hv0_5 (by decide +kernel))]; exact i_leL9 c_134p27p107 f_152p27p107_8 (by decide +kernel)), rfl, by rw [← ((fK_e (Or.inr (bI_f g_24_1 c_27))).symm.trans p4_1)]; exact ey_161p27p107, (i_eqc hxv0_9 (iR_c (n := 0) (a := 0) (b := 0) (by decide +kernel) (by decide +kernel))), rfl⟩)⟩), (show (0 : Int32) < v0_9 → (0 : Int32) < v0_9 from (fun h => h)), (show (v0_9 = 0) ∨ ((258 = 259)) from (Or.inl (i_eqc hxv0_9 (iR_c (n := 0) (a := 0) (b := 0) (by decide +kernel) (by decide +kernel)))))⟩
              · have c_134p27p107 : 6 < y_91p27 := i_nle c_134p27p107
                have f_137p27p107_8 : iR y_91p27 7 7 := iR_ltR c_134p27p107 (iR_c (n := 6) (a := 6) (b := 6) (by decide +kernel) (by decide +kernel)) f_105p27_6 (by decide +kernel)
                refine lv_aload_n hx hb dX2_readWord_137 rfl (lv_at hl 2 rfl) ?_
                refine lv_iconst (v := 1) hx hb dX2_readWord_138 (by decide +kernel) ?_
                refine lv_aload_n hx hb dX2_readWord_139 rfl (lv_at hl 2 rfl) ?_
                refine k_get (D := (dC, dI)) (ci := 2) (v := .int v0_5) (C := RX2) (T := TX2) (N := 11) hx hb hts hinX2 hown hK hP 1 rfl rfl 5 (by decide) w_2 rfl rfl dX2_readWord_140 ?_
                refine lv_bipush (v := 6) hx hb dX2_readWord_143 (by decide +kernel) ?_
                refine lv_iadd hx hb dX2_readWord_145 ?_
                refine lv_topi (fun y_145p27p107 ey_145p27p107 => ?_)
                have xy_145p27p107 : y_145p27p107.toInt = v0_5.toInt + 6 := i_add ey_145p27p107 hv0_5 (iR_c (n := 6) (a := 6) (b := 6) (by decide +kernel) (by decide +kernel)) (by decide +kernel)
                have f_145p27p107_9 : iR y_145p27p107 6 1606 := iR_add ey_145p27p107 hv0_5 (iR_c (n := 6) (a := 6) (b := 6) (by decide +kernel) (by decide +kernel)) (by decide +kernel)
                refine k_cv (wc := [(a0, .inr (2, [.ref a0_0, .ref a0_1, .ref b0_2, .int v0_3, .int j4_F0_4, .int v0_5, .int v0_6, .int v0_7, .int 0, .int v0_9, .int v0_10]))]) (wr := [(a0_0, .inl (cI, 1600, .inl f0_0)), (a0_1, .inl (cJ, 25, .inr (.inl g0_1)))]) (fun hPc hDc hFc => va_runV (As := [.int 1, .int y_145p27p107]) (rest := []) ⟨hx, hb, hml, hown, hts⟩ (s_X2_blame_v2 l dC dI cI cJ cZ cM a0 1 y_145p27p107 a0_0 a0_1 b0_2 v0_3 j4_F0_4 v0_5 v0_6 v0_7 v0_9 v0_10 (iR_c (n := 1) (a := 1) (b := 6) (by decide +kernel) (by decide +kernel)) (iR_w f_15_2 (by decide +kernel)) (iR_w f_15_1 (by decide +kernel)) hv0_5 hv0_6 (iR_w hxv0_9 (by decide +kernel)) hpg0 H.size) (cwV 2 hts gX2_readWord_X2_blame rfl rfl rfl (by decide +kernel) ⟨(Nat.le_of_ble_eq_true rfl), (Nat.le_of_ble_eq_true rfl)⟩) (k_pV hPc hDc hK hN hC hS hFc hP (q0 := 1) (ci := 2) rfl rfl) rfl rfl hl.1 rfl (lv_room (Nat.le_of_ble_eq_true rfl)) dX2_readWord_146 ⟨(Nat.le_of_ble_eq_true rfl), (Nat.le_of_ble_eq_true rfl)⟩) hP hD hS hA [1] [0, 2] rfl rfl rfl rfl (by decide) (fun _ => rfl) 0 0 rfl rfl (fun u_146p27p107 H locs hw hP hD hS => ?_)
                obtain ⟨g_146p27p107_0, g_146p27p107_1, g_146p27p107_2, g_146p27p107_3, g_146p27p107_4⟩ := hw
                have hP : va_P (dC, dI) vwCl [(a0_0, .inl (cI, 1600, .inl f0_0)), (a0_1, .inl (cJ, 25, .inr (.inl g0_1))), (a0, .inr (2, [.ref a0_0, .ref a0_1, .ref b0_2, .int v0_3, .int j4_F0_4, .int v0_5, .int (u_146p27p107.1 0), .int v0_7, .int 0, .int (u_146p27p107.1 1), .int (u_146p27p107.1 2)]))] H := hP
                have hD : va_D A [(a0_0, .inl (cI, 1600, .inl f0_0)), (a0_1, .inl (cJ, 25, .inr (.inl g0_1))), (a0, .inr (2, [.ref a0_0, .ref a0_1, .ref b0_2, .int v0_3, .int j4_F0_4, .int v0_5, .int (u_146p27p107.1 0), .int v0_7, .int 0, .int (u_146p27p107.1 1), .int (u_146p27p107.1 2)]))] := hD
                have g_146p27p107_2 : BL v0_6 v0_9 v0_10 1 y_145p27p107 (u_146p27p107.1 0) (u_146p27p107.1 1) (u_146p27p107.1 2) := g_146p27p107_2
                have g_146p27p107_3 : (0 : Int32) < v0_9 → (0 : Int32) < (u_146p27p107.1 1) := g_146p27p107_3
                have g_146p27p107_4 : ((u_146p27p107.1 1) = 0) ∨ (((u_146p27p107.1 0) = 259)) := g_146p27p107_4
                obtain d146p27p107_1_0 := g_146p27p107_4.resolve_left (i_nef g_146p27p107_1 (iR_c (n := 0) (a := 0) (b := 0) (by decide +kernel) (by decide +kernel)) (by decide +kernel))
                refine lv_goto (tgt := 165) hx hb dX2_readWord_149 (by decide) ?_
                exact k_rv B hP hD hS dX2_readWord_165 ((fun k9 => match k9 with | 0 => j4_F0_4 | 1 => (u_146p27p107.1 0) | 2 => v0_7 | 3 => (u_146p27p107.1 1) | 4 => (u_146p27p107.1 2) | _ => 0), (fun _ => 0), (fun _ => (fun _ => 0)), (fun _ => (fun _ => 0)), (fun _ => 0)) [2, 0, 1] rfl rfl (Nat.le_of_ble_eq_true rfl) (Nat.le_of_ble_eq_true rfl) ⟨(show iR j4_F0_4 0 1600 from (iR_w f_15_1 (by decide +kernel))), (show iR (u_146p27p107.1 0) 258 324 from (iR_w g_146p27p107_0 (by decide +kernel))), (show iR (u_146p27p107.1 1) 0 6 from (iR_w g_146p27p107_1 (by decide +kernel))), (show XW f0_0 g0_1 v0_3.toNatClampNeg v0_5 v0_7 v0_10 j4_F0_4 (u_146p27p107.1 0) v0_7 (u_146p27p107.1 1) (u_146p27p107.1 2) from ⟨((rn_e (Or.inr (bI_f g_24_1 c_27))).symm.trans p4_0), r_107p27, Or.inr ⟨(by rw [← (i_subN ey_91p27 v4_0 f_15_1 hv0_5 (by decide +kernel))]; exact i_leL9 c_98p27 f_137p27p107_8 (by decide +kernel)), by rw [← ((fK_e (Or.inr (bI_f g_24_1 c_27))).symm.trans p4_1)]; exact g_107p27_1⟩, Or.inr (Or.inl ⟨c_114p27p107, (by rw [← (i_subN ey_91p27 v4_0 f_15_1 hv0_5 (by decide +kernel))]; exact i_gtL c_134p27p107 f_137p27p107_8 (by decide +kernel)), (g_146p27p107_2.resolve_right (fun q9 => q9.1 (i_eqc hxv0_9 (iR_c (n := 0) (a := 0) (b := 0) (by decide +kernel) (by decide +kernel))))).2.1, rfl, (g_146p27p107_2.resolve_right (fun q9 => q9.1 (i_eqc hxv0_9 (iR_c (n := 0) (a := 0) (b := 0) (by decide +kernel) (by decide +kernel))))).2.2.1, (g_146p27p107_2.resolve_right (fun q9 => q9.1 (i_eqc hxv0_9 (iR_c (n := 0) (a := 0) (b := 0) (by decide +kernel) (by decide +kernel))))).2.2.2.trans ey_145p27p107⟩)⟩), (show (0 : Int32) < v0_9 → (0 : Int32) < (u_146p27p107.1 1) from (fun h => g_146p27p107_3 ((fun h => h) h))), (show ((u_146p27p107.1 1) = 0) ∨ (((u_146p27p107.1 0) = 259)) from (Or.inr d146p27p107_1_0))⟩
            · have c_114p27p107 : 0 ≤ r_107p27 := i_nlt c_114p27p107
              have f_117p27p107_7 : iR r_107p27 0 24 := iR_leR c_114p27p107 (iR_c (n := 0) (a := 0) (b := 0) (by decide +kernel) (by decide +kernel)) g_107p27_0 (by decide +kernel)
              refine lv_aload_n hx hb dX2_readWord_117 rfl (lv_at hl 2 rfl) ?_
              refine lv_sipush (v := 300) hx hb dX2_readWord_118 (by decide +kernel) ?_
              refine lv_iload hx hb dX2_readWord_121 (lv_at hl 0 rfl) ?_
              refine lv_iadd hx hb dX2_readWord_123 ?_
              refine lv_topi (fun y_123p27p107 ey_123p27p107 => ?_)
              have xy_123p27p107 : y_123p27p107.toInt = 300 + r_107p27.toInt := i_add ey_123p27p107 (iR_c (n := 300) (a := 300) (b := 300) (by decide +kernel) (by decide +kernel)) f_117p27p107_7 (by decide +kernel)
              have f_123p27p107_8 : iR y_123p27p107 300 324 := iR_add ey_123p27p107 (iR_c (n := 300) (a := 300) (b := 300) (by decide +kernel) (by decide +kernel)) f_117p27p107_7 (by decide +kernel)
              refine k_put (D := (dC, dI)) (ci := 2) (v := .int y_123p27p107) (C := RX2) (T := TX2) (N := 11) (ws' := [(a0_0, .inl (cI, 1600, .inl f0_0)), (a0, .inr (2, [.ref a0_0, .ref a0_1, .ref b0_2, .int v0_3, .int j4_F0_4, .int v0_5, .int y_123p27p107, .int v0_7, .int 0, .int v0_9, .int v0_10])), (a0_1, .inl (cJ, 25, .inr (.inl g0_1)))]) hx hb hts hinX2 tyX2 tyX2_ok nmX2 hown hK hP hD hS 1 rfl rfl 6 (by decide) w_3 rfl rfl rfl rfl (Nat.le_of_ble_eq_true rfl) rfl dX2_readWord_124 (fun H locs hP hD hS => ?_)
              refine lv_goto (tgt := 165) hx hb dX2_readWord_127 (by decide) ?_
              exact k_rv B hP hD hS dX2_readWord_165 ((fun k9 => match k9 with | 0 => j4_F0_4 | 1 => y_123p27p107 | 2 => v0_7 | 3 => v0_9 | 4 => v0_10 | _ => 0), (fun _ => 0), (fun _ => (fun _ => 0)), (fun _ => (fun _ => 0)), (fun _ => 0)) [1, 0, 2] rfl rfl (Nat.le_of_ble_eq_true rfl) (Nat.le_of_ble_eq_true rfl) ⟨(show iR j4_F0_4 0 1600 from (iR_w f_15_1 (by decide +kernel))), (show iR y_123p27p107 258 324 from (iR_w f_123p27p107_8 (by decide +kernel))), (show iR v0_9 0 6 from (iR_w hxv0_9 (by decide +kernel))), (show XW f0_0 g0_1 v0_3.toNatClampNeg v0_5 v0_7 v0_10 j4_F0_4 y_123p27p107 v0_7 v0_9 v0_10 from ⟨((rn_e (Or.inr (bI_f g_24_1 c_27))).symm.trans p4_0), r_107p27, Or.inr ⟨(by rw [← (i_subN ey_91p27 v4_0 f_15_1 hv0_5 (by decide +kernel))]; exact i_leL9 c_98p27 f_105p27_6 (by decide +kernel)), by rw [← ((fK_e (Or.inr (bI_f g_24_1 c_27))).symm.trans p4_1)]; exact g_107p27_1⟩, Or.inl ⟨c_114p27p107, ey_123p27p107, rfl, (i_eqc hxv0_9 (iR_c (n := 0) (a := 0) (b := 0) (by decide +kernel) (by decide +kernel))), rfl⟩⟩), (show (0 : Int32) < v0_9 → (0 : Int32) < v0_9 from (fun h => h)), (show (v0_9 = 0) ∨ ((y_123p27p107 = 259)) from (Or.inl (i_eqc hxv0_9 (iR_c (n := 0) (a := 0) (b := 0) (by decide +kernel) (by decide +kernel)))))⟩
          · have c_98p27 : 7 < y_91p27 := i_nle c_98p27
            have f_101p27_6 : iR y_91p27 8 1599 := iR_ltR c_98p27 (iR_c (n := 7) (a := 7) (b := 7) (by decide +kernel) (by decide +kernel)) f_91p27_5 (by decide +kernel)
            refine lv_iconst (v := (-1)) hx hb dX2_readWord_101 (by decide +kernel) ?_
            refine lv_goto (tgt := 110) hx hb dX2_readWord_102 (by decide) ?_
            refine lv_istore (lv' := [(6, .int (-1)), (5, .int y_91p27), (0, .ref a0), (1, .long j4_L1), (3, .long j4_L3)]) hx hb dX2_readWord_110 hl (by decide) rfl (fun ls hl => ?_)
            refine lv_iload hx hb dX2_readWord_112 (lv_at hl 0 rfl) ?_
            refine lv_if_lt (tgt := 130) hx hb dX2_readWord_114 (by decide) (fun _ => ?_) (fun q9 => absurd q9 (by decide +kernel))
            refine lv_iload hx hb dX2_readWord_130 (lv_at hl 1 rfl) ?_
            refine lv_bipush (v := 6) hx hb dX2_readWord_132 (by decide +kernel) ?_
            refine lv_icmp_le (tgt := 152) hx hb dX2_readWord_134 (by decide) (fun c_134p27p102 => ?_) (fun c_134p27p102 => ?_)
            · exact iR_cl (iR_leL (a' := 8) (b' := 6) c_134p27p102 f_101p27_6 (iR_c (n := 6) (a := 6) (b := 6) (by decide +kernel) (by decide +kernel)) (by decide +kernel)) (by decide +kernel)
            · have c_134p27p102 : 6 < y_91p27 := i_nle c_134p27p102
              refine lv_aload_n hx hb dX2_readWord_137 rfl (lv_at hl 2 rfl) ?_
              refine lv_iconst (v := 1) hx hb dX2_readWord_138 (by decide +kernel) ?_
              refine lv_aload_n hx hb dX2_readWord_139 rfl (lv_at hl 2 rfl) ?_
              refine k_get (D := (dC, dI)) (ci := 2) (v := .int v0_5) (C := RX2) (T := TX2) (N := 11) hx hb hts hinX2 hown hK hP 0 rfl rfl 5 (by decide) w_2 rfl rfl dX2_readWord_140 ?_
              refine lv_bipush (v := 6) hx hb dX2_readWord_143 (by decide +kernel) ?_
              refine lv_iadd hx hb dX2_readWord_145 ?_
              refine lv_topi (fun y_145p27p102 ey_145p27p102 => ?_)
              have xy_145p27p102 : y_145p27p102.toInt = v0_5.toInt + 6 := i_add ey_145p27p102 hv0_5 (iR_c (n := 6) (a := 6) (b := 6) (by decide +kernel) (by decide +kernel)) (by decide +kernel)
              have f_145p27p102_7 : iR y_145p27p102 6 1606 := iR_add ey_145p27p102 hv0_5 (iR_c (n := 6) (a := 6) (b := 6) (by decide +kernel) (by decide +kernel)) (by decide +kernel)
              refine k_cv (wc := [(a0, .inr (2, [.ref a0_0, .ref a0_1, .ref b0_2, .int v0_3, .int j4_F0_4, .int v0_5, .int v0_6, .int v0_7, .int 0, .int v0_9, .int v0_10]))]) (wr := [(a0_0, .inl (cI, 1600, .inl f0_0)), (a0_1, .inl (cJ, 25, .inr (.inl g0_1)))]) (fun hPc hDc hFc => va_runV (As := [.int 1, .int y_145p27p102]) (rest := []) ⟨hx, hb, hml, hown, hts⟩ (s_X2_blame_v2 l dC dI cI cJ cZ cM a0 1 y_145p27p102 a0_0 a0_1 b0_2 v0_3 j4_F0_4 v0_5 v0_6 v0_7 v0_9 v0_10 (iR_c (n := 1) (a := 1) (b := 6) (by decide +kernel) (by decide +kernel)) (iR_w f_15_2 (by decide +kernel)) (iR_w f_15_1 (by decide +kernel)) hv0_5 hv0_6 (iR_w hxv0_9 (by decide +kernel)) hpg0 H.size) (cwV 2 hts gX2_readWord_X2_blame rfl rfl rfl (by decide +kernel) ⟨(Nat.le_of_ble_eq_true rfl), (Nat.le_of_ble_eq_true rfl)⟩) (k_pV hPc hDc hK hN hC hS hFc hP (q0 := 0) (ci := 2) rfl rfl) rfl rfl hl.1 rfl (lv_room (Nat.le_of_ble_eq_true rfl)) dX2_readWord_146 ⟨(Nat.le_of_ble_eq_true rfl), (Nat.le_of_ble_eq_true rfl)⟩) hP hD hS hA [0] [1, 2] rfl rfl rfl rfl (by decide) (fun _ => rfl) 0 0 rfl rfl (fun u_146p27p102 H locs hw hP hD hS => ?_)
              obtain ⟨g_146p27p102_0, g_146p27p102_1, g_146p27p102_2, g_146p27p102_3, g_146p27p102_4⟩ := hw
              have hP : va_P (dC, dI) vwCl [(a0_0, .inl (cI, 1600, .inl f0_0)), (a0_1, .inl (cJ, 25, .inr (.inl g0_1))), (a0, .inr (2, [.ref a0_0, .ref a0_1, .ref b0_2, .int v0_3, .int j4_F0_4, .int v0_5, .int (u_146p27p102.1 0), .int v0_7, .int 0, .int (u_146p27p102.1 1), .int (u_146p27p102.1 2)]))] H := hP
              have hD : va_D A [(a0_0, .inl (cI, 1600, .inl f0_0)), (a0_1, .inl (cJ, 25, .inr (.inl g0_1))), (a0, .inr (2, [.ref a0_0, .ref a0_1, .ref b0_2, .int v0_3, .int j4_F0_4, .int v0_5, .int (u_146p27p102.1 0), .int v0_7, .int 0, .int (u_146p27p102.1 1), .int (u_146p27p102.1 2)]))] := hD
              have g_146p27p102_2 : BL v0_6 v0_9 v0_10 1 y_145p27p102 (u_146p27p102.1 0) (u_146p27p102.1 1) (u_146p27p102.1 2) := g_146p27p102_2
              have g_146p27p102_3 : (0 : Int32) < v0_9 → (0 : Int32) < (u_146p27p102.1 1) := g_146p27p102_3
              have g_146p27p102_4 : ((u_146p27p102.1 1) = 0) ∨ (((u_146p27p102.1 0) = 259)) := g_146p27p102_4
              obtain d146p27p102_1_0 := g_146p27p102_4.resolve_left (i_nef g_146p27p102_1 (iR_c (n := 0) (a := 0) (b := 0) (by decide +kernel) (by decide +kernel)) (by decide +kernel))
              refine lv_goto (tgt := 165) hx hb dX2_readWord_149 (by decide) ?_
              exact k_rv B hP hD hS dX2_readWord_165 ((fun k9 => match k9 with | 0 => j4_F0_4 | 1 => (u_146p27p102.1 0) | 2 => v0_7 | 3 => (u_146p27p102.1 1) | 4 => (u_146p27p102.1 2) | _ => 0), (fun _ => 0), (fun _ => (fun _ => 0)), (fun _ => (fun _ => 0)), (fun _ => 0)) [2, 0, 1] rfl rfl (Nat.le_of_ble_eq_true rfl) (Nat.le_of_ble_eq_true rfl) ⟨(show iR j4_F0_4 0 1600 from (iR_w f_15_1 (by decide +kernel))), (show iR (u_146p27p102.1 0) 258 324 from (iR_w g_146p27p102_0 (by decide +kernel))), (show iR (u_146p27p102.1 1) 0 6 from (iR_w g_146p27p102_1 (by decide +kernel))), (show XW f0_0 g0_1 v0_3.toNatClampNeg v0_5 v0_7 v0_10 j4_F0_4 (u_146p27p102.1 0) v0_7 (u_146p27p102.1 1) (u_146p27p102.1 2) from ⟨((rn_e (Or.inr (bI_f g_24_1 c_27))).symm.trans p4_0), (-1), Or.inl ⟨rfl, (by rw [← (i_subN ey_91p27 v4_0 f_15_1 hv0_5 (by decide +kernel))]; exact i_gtL c_98p27 f_101p27_6 (by decide +kernel))⟩, Or.inr (Or.inl ⟨(by decide), (by rw [← (i_subN ey_91p27 v4_0 f_15_1 hv0_5 (by decide +kernel))]; exact i_gtL c_134p27p102 f_101p27_6 (by decide +kernel)), (g_146p27p102_2.resolve_right (fun q9 => q9.1 (i_eqc hxv0_9 (iR_c (n := 0) (a := 0) (b := 0) (by decide +kernel) (by decide +kernel))))).2.1, rfl, (g_146p27p102_2.resolve_right (fun q9 => q9.1 (i_eqc hxv0_9 (iR_c (n := 0) (a := 0) (b := 0) (by decide +kernel) (by decide +kernel))))).2.2.1, (g_146p27p102_2.resolve_right (fun q9 => q9.1 (i_eqc hxv0_9 (iR_c (n := 0) (a := 0) (b := 0) (by decide +kernel) (by decide +kernel))))).2.2.2.trans ey_145p27p102⟩)⟩), (show (0 : Int32) < v0_9 → (0 : Int32) < (u_146p27p102.1 1) from (fun h => g_146p27p102_3 ((fun h => h) h))), (show ((u_146p27p102.1 1) = 0) ∨ (((u_146p27p102.1 0) = 259)) from (Or.inr d146p27p102_1_0))⟩
        · have c_27 : ¬ r_24 = 0 := c_27
          have f_30_4 : iR r_24 1 1 := iR_neL c_27 g_24_0 (iR_c (n := 0) (a := 0) (b := 0) (by decide +kernel) (by decide +kernel)) (by decide +kernel)
          refine lv_aload_n hx hb dX2_readWord_30 rfl (lv_at hl 0 rfl) ?_
          refine k_get (D := (dC, dI)) (ci := 2) (v := .int j4_F0_4) (C := RX2) (T := TX2) (N := 11) hx hb hts hinX2 hown hK hP 0 rfl rfl 4 (by decide) w_0 rfl rfl dX2_readWord_31 ?_
          refine lv_aload_n hx hb dX2_readWord_34 rfl (lv_at hl 0 rfl) ?_
          refine k_get (D := (dC, dI)) (ci := 2) (v := .int v0_5) (C := RX2) (T := TX2) (N := 11) hx hb hts hinX2 hown hK hP 0 rfl rfl 5 (by decide) w_2 rfl rfl dX2_readWord_35 ?_
          refine lv_isub hx hb dX2_readWord_38 ?_
          refine lv_topi (fun y_38 ey_38 => ?_)
          have xy_38 : y_38.toInt = j4_F0_4.toInt - v0_5.toInt := i_sub ey_38 f_15_1 hv0_5 (by decide +kernel)
          have f_38_5 : iR y_38 0 1599 := iR_subge ey_38 v4_0 f_15_1 hv0_5 (by decide +kernel)
          refine lv_bipush (v := 7) hx hb dX2_readWord_39 (by decide +kernel) ?_
          refine lv_icmp_ge (tgt := 70) hx hb dX2_readWord_41 (by decide) (fun c_41 => ?_) (fun c_41 => ?_)
          · have c_41 : 7 ≤ y_38 := c_41
            have f_70_6 : iR y_38 7 1599 := iR_leR c_41 (iR_c (n := 7) (a := 7) (b := 7) (by decide +kernel) (by decide +kernel)) f_38_5 (by decide +kernel)
            refine lv_aload_n hx hb dX2_readWord_70 rfl (lv_at hl 0 rfl) ?_
            refine lv_dup hx hb dX2_readWord_71 rfl ?_
            refine k_get (D := (dC, dI)) (ci := 2) (v := .int j4_F0_4) (C := RX2) (T := TX2) (N := 11) hx hb hts hinX2 hown hK hP 0 rfl rfl 4 (by decide) w_0 rfl rfl dX2_readWord_72 ?_
            refine lv_iconst (v := 1) hx hb dX2_readWord_75 (by decide +kernel) ?_
            refine lv_iadd hx hb dX2_readWord_76 ?_
            refine lv_topi (fun y_76p41 ey_76p41 => ?_)
            have xy_76p41 : y_76p41.toInt = j4_F0_4.toInt + 1 := i_add ey_76p41 f_15_1 (iR_c (n := 1) (a := 1) (b := 1) (by decide +kernel) (by decide +kernel)) (by decide +kernel)
            have f_76p41_7 : iR y_76p41 1 1600 := iR_add ey_76p41 f_15_1 (iR_c (n := 1) (a := 1) (b := 1) (by decide +kernel) (by decide +kernel)) (by decide +kernel)
            refine k_put (D := (dC, dI)) (ci := 2) (v := .int y_76p41) (C := RX2) (T := TX2) (N := 11) (ws' := [(a0, .inr (2, [.ref a0_0, .ref a0_1, .ref b0_2, .int v0_3, .int y_76p41, .int v0_5, .int v0_6, .int v0_7, .int 0, .int v0_9, .int v0_10])), (a0_0, .inl (cI, 1600, .inl f0_0)), (a0_1, .inl (cJ, 25, .inr (.inl g0_1)))]) hx hb hts hinX2 tyX2 tyX2_ok nmX2 hown hK hP hD hS 0 rfl rfl 4 (by decide) w_0 rfl rfl rfl rfl (Nat.le_of_ble_eq_true rfl) rfl dX2_readWord_77 (fun H locs hP hD hS => ?_)
            refine lv_goto (tgt := 4) hx hb dX2_readWord_80 (by decide) ?_
            exact ih_4 y_76p41 j4_L1 j4_L3 (iR_w f_76p41_7 (by decide +kernel)) (i_lestep v4_0 ey_76p41 f_15_1 (iR_c (n := 1) (a := 1) (b := 1) (by decide +kernel) (by decide +kernel)) (by decide +kernel)) (show rn cL f0_0 v0_3.toNatClampNeg y_76p41.toNatClampNeg = rn cL f0_0 v0_3.toNatClampNeg v0_5.toNatClampNeg from (by rw [i_succ ey_76p41 f_15_1 (by decide +kernel), rn_s (i_ltN c_12 f_15_1 f_15_2 (by decide +kernel)) (bI_t g_24_1 c_27)]; exact p4_0)) (show fK f0_0 v0_3.toNatClampNeg (y_76p41.toNatClampNeg - v0_5.toNatClampNeg) y_76p41.toNatClampNeg j4_L1 j4_L3 = fK f0_0 v0_3.toNatClampNeg 0 v0_5.toNatClampNeg 0 1 from (by rw [i_succ ey_76p41 f_15_1 (by decide +kernel), i_subS v4_0 f_15_1 hv0_5 (by decide +kernel)]; exact fK_s (i_ltN c_12 f_15_1 f_15_2 (by decide +kernel)) (bI_t g_24_1 c_27) (gK_n (by rw [← (i_subN ey_38 v4_0 f_15_1 hv0_5 (by decide +kernel))]; exact i_geL c_41 f_70_6 (by decide +kernel))).symm p4_1)) (m_up (B := 1600) hm_4 ey_76p41 f_15_1 (by decide +kernel)) H locs ls hP hD hS (lv_sub hl [0, 1, 2] rfl)
          · have c_41 : y_38 < 7 := i_nle c_41
            have f_44_6 : iR y_38 0 6 := iR_ltL c_41 f_38_5 (iR_c (n := 7) (a := 7) (b := 7) (by decide +kernel) (by decide +kernel)) (by decide +kernel)
            refine lv_lload_n hx hb dX2_readWord_44 rfl (lv_at hl 1 rfl) ?_
            refine lv_aload_n hx hb dX2_readWord_45 rfl (lv_at hl 0 rfl) ?_
            refine k_get (D := (dC, dI)) (ci := 2) (v := .ref a0_0) (C := RX2) (T := TX2) (N := 11) hx hb hts hinX2 hown hK hP 0 rfl rfl 0 (by decide) w_5 rfl rfl dX2_readWord_46 ?_
            refine lv_aload_n hx hb dX2_readWord_49 rfl (lv_at hl 0 rfl) ?_
            refine k_get (D := (dC, dI)) (ci := 2) (v := .int j4_F0_4) (C := RX2) (T := TX2) (N := 11) hx hb hts hinX2 hown hK hP 0 rfl rfl 4 (by decide) w_0 rfl rfl dX2_readWord_50 ?_
            refine va_iald hx hb hK hP 1 0 rfl rfl (iR_vp f_15_1 (by decide +kernel)) dX2_readWord_53 ?_
            refine lv_bipush (v := 97) hx hb dX2_readWord_54 (by decide +kernel) ?_
            refine lv_isub hx hb dX2_readWord_56 ?_
            refine lv_topi (fun y_56 ey_56 => ?_)
            have xy_56 : y_56.toInt = (f0_0 j4_F0_4.toNatClampNeg).toInt - 97 := i_sub ey_56 f_23_3 (iR_c (n := 97) (a := 97) (b := 97) (by decide +kernel) (by decide +kernel)) (by decide +kernel)
            have f_56_7 : iR y_56 (-97) 158 := iR_sub ey_56 f_23_3 (iR_c (n := 97) (a := 97) (b := 97) (by decide +kernel) (by decide +kernel)) (by decide +kernel)
            refine lv_iconst (v := 1) hx hb dX2_readWord_57 (by decide +kernel) ?_
            refine lv_iadd hx hb dX2_readWord_58 ?_
            refine lv_topi (fun y_58 ey_58 => ?_)
            have xy_58 : y_58.toInt = y_56.toInt + 1 := i_add ey_58 f_56_7 (iR_c (n := 1) (a := 1) (b := 1) (by decide +kernel) (by decide +kernel)) (by decide +kernel)
            have f_58_8 : iR y_58 (-96) 159 := iR_add ey_58 f_56_7 (iR_c (n := 1) (a := 1) (b := 1) (by decide +kernel) (by decide +kernel)) (by decide +kernel)
            refine lv_i2l (v := y_58.toInt64) hx hb dX2_readWord_59 rfl ?_
            refine lv_topl (fun y_59 ey_59 => ?_)
            refine lv_lload_n hx hb dX2_readWord_60 rfl (lv_at hl 2 rfl) ?_
            refine lv_lmul hx hb dX2_readWord_61 ?_
            refine lv_topl (fun y_61 ey_61 => ?_)
            refine lv_ladd hx hb dX2_readWord_62 ?_
            refine lv_topl (fun y_62 ey_62 => ?_)
            refine lv_lstore_n (lv' := [(1, .long y_62), (0, .ref a0), (3, .long j4_L3)]) hx hb dX2_readWord_63 rfl hl (by decide) rfl (fun ls hl => ?_)
            refine lv_lload_n hx hb dX2_readWord_64 rfl (lv_at hl 2 rfl) ?_
            refine lv_ldc2 (v := 27) hx hb hown w_6 dX2_readWord_65 ?_
            refine lv_lmul hx hb dX2_readWord_68 ?_
            refine lv_topl (fun y_68 ey_68 => ?_)
            refine lv_lstore_n (lv' := [(3, .long y_68), (1, .long y_62), (0, .ref a0)]) hx hb dX2_readWord_69 rfl hl (by decide) rfl (fun ls hl => ?_)
            refine lv_aload_n hx hb dX2_readWord_70 rfl (lv_at hl 2 rfl) ?_
            refine lv_dup hx hb dX2_readWord_71 rfl ?_
            refine k_get (D := (dC, dI)) (ci := 2) (v := .int j4_F0_4) (C := RX2) (T := TX2) (N := 11) hx hb hts hinX2 hown hK hP 0 rfl rfl 4 (by decide) w_0 rfl rfl dX2_readWord_72 ?_
            refine lv_iconst (v := 1) hx hb dX2_readWord_75 (by decide +kernel) ?_
            refine lv_iadd hx hb dX2_readWord_76 ?_
            refine lv_topi (fun y_76p69 ey_76p69 => ?_)
            have xy_76p69 : y_76p69.toInt = j4_F0_4.toInt + 1 := i_add ey_76p69 f_15_1 (iR_c (n := 1) (a := 1) (b := 1) (by decide +kernel) (by decide +kernel)) (by decide +kernel)
            have f_76p69_9 : iR y_76p69 1 1600 := iR_add ey_76p69 f_15_1 (iR_c (n := 1) (a := 1) (b := 1) (by decide +kernel) (by decide +kernel)) (by decide +kernel)
            refine k_put (D := (dC, dI)) (ci := 2) (v := .int y_76p69) (C := RX2) (T := TX2) (N := 11) (ws' := [(a0, .inr (2, [.ref a0_0, .ref a0_1, .ref b0_2, .int v0_3, .int y_76p69, .int v0_5, .int v0_6, .int v0_7, .int 0, .int v0_9, .int v0_10])), (a0_0, .inl (cI, 1600, .inl f0_0)), (a0_1, .inl (cJ, 25, .inr (.inl g0_1)))]) hx hb hts hinX2 tyX2 tyX2_ok nmX2 hown hK hP hD hS 0 rfl rfl 4 (by decide) w_0 rfl rfl rfl rfl (Nat.le_of_ble_eq_true rfl) rfl dX2_readWord_77 (fun H locs hP hD hS => ?_)
            refine lv_goto (tgt := 4) hx hb dX2_readWord_80 (by decide) ?_
            exact ih_4 y_76p69 y_62 y_68 (iR_w f_76p69_9 (by decide +kernel)) (i_lestep v4_0 ey_76p69 f_15_1 (iR_c (n := 1) (a := 1) (b := 1) (by decide +kernel) (by decide +kernel)) (by decide +kernel)) (show rn cL f0_0 v0_3.toNatClampNeg y_76p69.toNatClampNeg = rn cL f0_0 v0_3.toNatClampNeg v0_5.toNatClampNeg from (by rw [i_succ ey_76p69 f_15_1 (by decide +kernel), rn_s (i_ltN c_12 f_15_1 f_15_2 (by decide +kernel)) (bI_t g_24_1 c_27)]; exact p4_0)) (show fK f0_0 v0_3.toNatClampNeg (y_76p69.toNatClampNeg - v0_5.toNatClampNeg) y_76p69.toNatClampNeg y_62 y_68 = fK f0_0 v0_3.toNatClampNeg 0 v0_5.toNatClampNeg 0 1 from (by rw [i_succ ey_76p69 f_15_1 (by decide +kernel), i_subS v4_0 f_15_1 hv0_5 (by decide +kernel)]; exact fK_s (i_ltN c_12 f_15_1 f_15_2 (by decide +kernel)) (bI_t g_24_1 c_27) ((gK_y (by rw [← (i_subN ey_38 v4_0 f_15_1 hv0_5 (by decide +kernel))]; exact i_ltL c_41 f_44_6 (by decide +kernel))).trans (by rw [ey_68, ey_62, ey_61, ey_59, ey_58, ey_56])).symm p4_1)) (m_up (B := 1600) hm_4 ey_76p69 f_15_1 (by decide +kernel)) H locs ls hP hD hS (lv_sub hl [2, 1, 0] rfl)
  refine lv_lstore_n (lv' := [(3, .long 1), (1, .long 0), (0, .ref a0)]) hx hb dX2_readWord_3 rfl hl (by decide) rfl (fun ls hl => ?_)
  exact J_4 _ v0_4 0 1 hv0_4 (i_leq hr0) (show rn cL f0_0 v0_3.toNatClampNeg v0_4.toNatClampNeg = rn cL f0_0 v0_3.toNatClampNeg v0_5.toNatClampNeg from (by rw [hr0])) (show fK f0_0 v0_3.toNatClampNeg (v0_4.toNatClampNeg - v0_5.toNatClampNeg) v0_4.toNatClampNeg (0 : Int64) (1 : Int64) = fK f0_0 v0_3.toNatClampNeg 0 v0_5.toNatClampNeg 0 1 from (by rw [hr0, Nat.sub_self])) (Nat.lt_succ_self _) H locs ls hP hD hS (lv_sub hl [2, 1, 0] rfl)
set_option maxHeartbeats 8000000 in
set_option maxRecDepth 100000 in
theorem s_X2_step_v0 (l : Launch) (dC : Nat → ClassId) (dI : Nat → Nat → Nat) (cI cJ cZ cM : ClassId) (a0 : Nat) (a0_0 : Nat) (f0_0 : Nat → Int32) (a0_1 : Nat) (g0_1 : Nat → Int64) (a0_2 : Nat) (v0_3 : Int32) (v0_4 : Int32) (v0_5 : Int32) (v0_6 : Int32) (v0_7 : Int32) (v0_9 : Int32) (v0_10 : Int32) (hv0_3 : iR v0_3 0 1600) (hv0_4 : iR v0_4 0 1600) (hv0_5 : iR v0_5 0 1600) (hv0_6 : iR v0_6 0 324) (hv0_9 : iR v0_9 0 6) (hf0_0 : aR f0_0 0 255) (hpg0 : (v0_9 = 0) ∨ ((v0_6 = 259))) : k_Mv l yX2_step wsX2_step ({ frames := 3, cells := 0, slots := 0, locals := 89 }) (dC, dI) vwCl (tyy cI cJ cZ cM) [(a0, .inr (2, [.ref a0_0, .ref a0_1, .ref a0_2, .int v0_3, .int v0_4, .int v0_5, .int v0_6, .int v0_7, .int 0, .int v0_9, .int v0_10])), (a0_0, .inl (cI, 1600, .inl f0_0)), (a0_1, .inl (cJ, 25, .inr (.inl g0_1)))] [.ref a0] 0 0 (fun (u9 : SU) => [(a0, .inr (2, [.ref a0_0, .ref a0_1, .ref a0_2, .int v0_3, .int (u9.1 0), .int (u9.1 1), .int (u9.1 2), .int (u9.1 3), .int 0, .int (u9.1 4), .int (u9.1 5)])), (a0_0, .inl (cI, 1600, .inl f0_0)), (a0_1, .inl (cJ, 25, .inr (.inl g0_1)))]) (fun (u9 : SU) => (iR (u9.1 0) 0 1600) ∧ (iR (u9.1 1) 0 1600) ∧ (iR (u9.1 2) 0 324) ∧ (iR (u9.1 4) 0 6) ∧ (XTS f0_0 g0_1 v0_3.toNatClampNeg v0_4 v0_6 v0_7 v0_9 v0_10 (u9.1 0) (u9.1 1) (u9.1 2) (u9.1 3) (u9.1 4) (u9.1 5)) ∧ ((0 : Int32) < v0_9 → (0 : Int32) < (u9.1 4)) ∧ (((u9.1 4) = 0) ∨ (((u9.1 2) = 259)))) := by
  refine fun sz => k_enter (cc := cX2_step) (maxL := 3) (ret := none) (Qc := fun A => va_Qv (fun (u9 : SU) => (iR (u9.1 0) 0 1600) ∧ (iR (u9.1 1) 0 1600) ∧ (iR (u9.1 2) 0 324) ∧ (iR (u9.1 4) 0 6) ∧ (XTS f0_0 g0_1 v0_3.toNatClampNeg v0_4 v0_6 v0_7 v0_9 v0_10 (u9.1 0) (u9.1 1) (u9.1 2) (u9.1 3) (u9.1 4) (u9.1 5)) ∧ ((0 : Int32) < v0_9 → (0 : Int32) < (u9.1 4)) ∧ (((u9.1 4) = 0) ∨ (((u9.1 2) = 259)))) (fun u => k_B (dC, dI) vwCl (tyy cI cJ cZ cM) A ((fun (u9 : SU) => [(a0, .inr (2, [.ref a0_0, .ref a0_1, .ref a0_2, .int v0_3, .int (u9.1 0), .int (u9.1 1), .int (u9.1 2), .int (u9.1 3), .int 0, .int (u9.1 4), .int (u9.1 5)])), (a0_0, .inl (cI, 1600, .inl f0_0)), (a0_1, .inl (cJ, 25, .inr (.inl g0_1)))]) u)) A) sz (by decide +kernel) rfl (Nat.le_of_ble_eq_true rfl) (fun p e s m args below meth c A ls H locs B hP hD hS hl => ?_)
  obtain ⟨hx, hb, hml, hown, hts, hr, hlk, hnm, hK, hA, hN, hC⟩ := id B
  have hown : s.vm.findClass RX2 = some m.cls := hown
  have hl : lv_has ls 3 [(0, .ref a0)] := hl
  have w_0 : (Cond.fieldLink RX2 63 "WishSea$Reader" "fault" "I").before args s = true := hts _ (List.mem_of_getElem? (i := 1) rfl)
  have w_1 : (Cond.fieldLink RX2 57 "WishSea$Reader" "position" "I").before args s = true := hts _ (List.mem_of_getElem? (i := 2) rfl)
  have w_2 : (Cond.fieldLink RX2 15 "WishSea$Reader" "token" "I").before args s = true := hts _ (List.mem_of_getElem? (i := 3) rfl)
  have w_3 : (Cond.fieldLink RX2 55 "WishSea$Reader" "length" "I").before args s = true := hts _ (List.mem_of_getElem? (i := 4) rfl)
  have w_4 : (Cond.fieldLink RX2 73 "WishSea$Reader" "start" "I").before args s = true := hts _ (List.mem_of_getElem? (i := 6) rfl)
  have w_5 : (Cond.fieldLink RX2 22 "WishSea$Reader" "text" "[I").before args s = true := hts _ (List.mem_of_getElem? (i := 5) rfl)
  have hinX2 : ∀ w ∈ u_ws RX2 TX2 11, w ∈ wsX2_step := fun _ h => List.mem_cons_of_mem _ (List.mem_append_right _ h)
  refine lv_aload_n hx hb dX2_step_0 rfl (lv_at hl 0 rfl) ?_
  refine k_get (D := (dC, dI)) (ci := 2) (v := .int v0_9) (C := RX2) (T := TX2) (N := 11) hx hb hts hinX2 hown hK hP 0 rfl rfl 9 (by decide) w_0 rfl rfl dX2_step_1 ?_
  refine lv_if_eq (tgt := 8) hx hb dX2_step_4 (by decide) (fun c_4 => ?_) (fun c_4 => ?_)
  · have c_4 : v0_9 = 0 := c_4
    have f_8_1 : iR v0_9 0 0 := iR_eqL c_4 hv0_9 (iR_c (n := 0) (a := 0) (b := 0) (by decide +kernel) (by decide +kernel)) (by decide +kernel)
    refine lv_aload_n hx hb dX2_step_8 rfl (lv_at hl 0 rfl) ?_
    refine k_get (D := (dC, dI)) (ci := 2) (v := .int v0_4) (C := RX2) (T := TX2) (N := 11) hx hb hts hinX2 hown hK hP 0 rfl rfl 4 (by decide) w_1 rfl rfl dX2_step_9 ?_
    refine lv_istore_n (lv' := [(1, .int v0_4), (0, .ref a0)]) hx hb dX2_step_12 rfl hl (by decide) rfl (fun ls hl => ?_)
    refine lv_aload_n hx hb dX2_step_13 rfl (lv_at hl 1 rfl) ?_
    refine k_get (D := (dC, dI)) (ci := 2) (v := .int v0_6) (C := RX2) (T := TX2) (N := 11) hx hb hts hinX2 hown hK hP 0 rfl rfl 6 (by decide) w_2 rfl rfl dX2_step_14 ?_
    refine k_ci (wc := []) (wr := [(a0, .inr (2, [.ref a0_0, .ref a0_1, .ref a0_2, .int v0_3, .int v0_4, .int v0_5, .int v0_6, .int v0_7, .int 0, .int v0_9, .int v0_10])), (a0_0, .inl (cI, 1600, .inl f0_0)), (a0_1, .inl (cJ, 25, .inr (.inl g0_1)))]) (fun hPc hDc hFc => va_runS (As := [.int v0_6]) (rest := []) ⟨hx, hb, hml, hown, hts⟩ (s_X2_isWhole_v0 l dC dI cI cJ cZ cM v0_6 H.size) (va_cwS 1 hts gX2_step_X2_isWhole rfl rfl rfl (by decide +kernel) ⟨(Nat.le_of_ble_eq_true rfl), (Nat.le_of_ble_eq_true rfl)⟩) (k_pS hPc hDc hK hN hC hS hFc) rfl rfl hl.1 rfl (lv_room (Nat.le_of_ble_eq_true rfl)) dX2_step_17 ⟨(Nat.le_of_ble_eq_true rfl), (Nat.le_of_ble_eq_true rfl)⟩) hP hD hS hA [] [0, 1, 2] rfl rfl rfl rfl (by decide) (fun _ => rfl) 0 0 rfl rfl (fun r_17 u_17 H locs hw hP hD hS => ?_)
    obtain ⟨g_17_0, g_17_1⟩ := hw
    have hP : va_P (dC, dI) vwCl [(a0, .inr (2, [.ref a0_0, .ref a0_1, .ref a0_2, .int v0_3, .int v0_4, .int v0_5, .int v0_6, .int v0_7, .int 0, .int v0_9, .int v0_10])), (a0_0, .inl (cI, 1600, .inl f0_0)), (a0_1, .inl (cJ, 25, .inr (.inl g0_1)))] H := hP
    have hD : va_D A [(a0, .inr (2, [.ref a0_0, .ref a0_1, .ref a0_2, .int v0_3, .int v0_4, .int v0_5, .int v0_6, .int v0_7, .int 0, .int v0_9, .int v0_10])), (a0_0, .inl (cI, 1600, .inl f0_0)), (a0_1, .inl (cJ, 25, .inr (.inl g0_1)))] := hD
    have g_17_1 : r_17 = bI (wh v0_6) := g_17_1
    have J_21 : ∀ (n_21 : Nat) (j21_F0_4 : Int32) (hj21_F0_4 : iR j21_F0_4 0 1600) (p21_0 : rn cB f0_0 v0_3.toNatClampNeg j21_F0_4.toNatClampNeg = rn cB f0_0 v0_3.toNatClampNeg v0_4.toNatClampNeg) (hm_21 : (1600 - j21_F0_4.toInt).toNat < n_21) (H : Heap) (locs : List Loc) (ls : Array Slot), va_P (dC, dI) vwCl [(a0, .inr (2, [.ref a0_0, .ref a0_1, .ref a0_2, .int v0_3, .int j21_F0_4, .int v0_5, .int v0_6, .int v0_7, .int 0, .int v0_9, .int v0_10])), (a0_0, .inl (cI, 1600, .inl f0_0)), (a0_1, .inl (cJ, 25, .inr (.inl g0_1)))] H → va_D A [(a0, .inr (2, [.ref a0_0, .ref a0_1, .ref a0_2, .int v0_3, .int j21_F0_4, .int v0_5, .int v0_6, .int v0_7, .int 0, .int v0_9, .int v0_10])), (a0_0, .inl (cI, 1600, .inl f0_0)), (a0_1, .inl (cJ, 25, .inr (.inl g0_1)))] → va_S A s.heap H locs → lv_has ls 3 [(0, .ref a0), (1, .int v0_4), (2, .int r_17)] → W p l e ({ frames := 3, cells := 0, slots := 0, locals := 89 }) s m args below meth c H locs 0 0 (MQ below (va_Qv (fun (u9 : SU) => (iR (u9.1 0) 0 1600) ∧ (iR (u9.1 1) 0 1600) ∧ (iR (u9.1 2) 0 324) ∧ (iR (u9.1 4) 0 6) ∧ (XTS f0_0 g0_1 v0_3.toNatClampNeg v0_4 v0_6 v0_7 v0_9 v0_10 (u9.1 0) (u9.1 1) (u9.1 2) (u9.1 3) (u9.1 4) (u9.1 5)) ∧ ((0 : Int32) < v0_9 → (0 : Int32) < (u9.1 4)) ∧ (((u9.1 4) = 0) ∨ (((u9.1 2) = 259)))) (fun u => k_B (dC, dI) vwCl (tyy cI cJ cZ cM) A ((fun (u9 : SU) => [(a0, .inr (2, [.ref a0_0, .ref a0_1, .ref a0_2, .int v0_3, .int (u9.1 0), .int (u9.1 1), .int (u9.1 2), .int (u9.1 3), .int 0, .int (u9.1 4), .int (u9.1 5)])), (a0_0, .inl (cI, 1600, .inl f0_0)), (a0_1, .inl (cJ, 25, .inr (.inl g0_1)))]) u)) A) args s 0 0 A) (F0 m 21 ls []) := by
      intro n_21
      induction n_21 with
      | zero => intro j21_F0_4 hj21_F0_4 p21_0 hm_21; exact absurd hm_21 (Nat.not_lt_zero _)
      | succ n_21 ih_21 =>
        intro j21_F0_4 hj21_F0_4 p21_0 hm_21 H locs ls hP hD hS hl
        refine lv_aload_n hx hb dX2_step_21 rfl (lv_at hl 0 rfl) ?_
        refine k_get (D := (dC, dI)) (ci := 2) (v := .int j21_F0_4) (C := RX2) (T := TX2) (N := 11) hx hb hts hinX2 hown hK hP 0 rfl rfl 4 (by decide) w_1 rfl rfl dX2_step_22 ?_
        refine lv_aload_n hx hb dX2_step_25 rfl (lv_at hl 0 rfl) ?_
        refine k_get (D := (dC, dI)) (ci := 2) (v := .int v0_3) (C := RX2) (T := TX2) (N := 11) hx hb hts hinX2 hown hK hP 0 rfl rfl 3 (by decide) w_3 rfl rfl dX2_step_26 ?_
        refine lv_icmp_ge (tgt := 73) hx hb dX2_step_29 (by decide) (fun c_29 => ?_) (fun c_29 => ?_)
        · have c_29 : v0_3 ≤ j21_F0_4 := c_29
          refine lv_aload_n hx hb dX2_step_73 rfl (lv_at hl 0 rfl) ?_
          refine lv_aload_n hx hb dX2_step_74 rfl (lv_at hl 0 rfl) ?_
          refine k_get (D := (dC, dI)) (ci := 2) (v := .int j21_F0_4) (C := RX2) (T := TX2) (N := 11) hx hb hts hinX2 hown hK hP 0 rfl rfl 4 (by decide) w_1 rfl rfl dX2_step_75 ?_
          refine k_put (D := (dC, dI)) (ci := 2) (v := .int j21_F0_4) (C := RX2) (T := TX2) (N := 11) (ws' := [(a0, .inr (2, [.ref a0_0, .ref a0_1, .ref a0_2, .int v0_3, .int j21_F0_4, .int j21_F0_4, .int v0_6, .int v0_7, .int 0, .int v0_9, .int v0_10])), (a0_0, .inl (cI, 1600, .inl f0_0)), (a0_1, .inl (cJ, 25, .inr (.inl g0_1)))]) hx hb hts hinX2 tyX2 tyX2_ok nmX2 hown hK hP hD hS 0 rfl rfl 5 (by decide) w_4 rfl rfl rfl rfl (Nat.le_of_ble_eq_true rfl) rfl dX2_step_78 (fun H locs hP hD hS => ?_)
          refine lv_aload_n hx hb dX2_step_81 rfl (lv_at hl 0 rfl) ?_
          refine k_get (D := (dC, dI)) (ci := 2) (v := .int j21_F0_4) (C := RX2) (T := TX2) (N := 11) hx hb hts hinX2 hown hK hP 0 rfl rfl 4 (by decide) w_1 rfl rfl dX2_step_82 ?_
          refine lv_aload_n hx hb dX2_step_85 rfl (lv_at hl 0 rfl) ?_
          refine k_get (D := (dC, dI)) (ci := 2) (v := .int v0_3) (C := RX2) (T := TX2) (N := 11) hx hb hts hinX2 hown hK hP 0 rfl rfl 3 (by decide) w_3 rfl rfl dX2_step_86 ?_
          refine lv_icmp_lt (tgt := 102) hx hb dX2_step_89 (by decide) (fun c_89p29 => ?_) (fun c_89p29 => ?_)
          · exact (i_noall (by have r0 : v0_3.toInt ≤ j21_F0_4.toInt := i_ti_le rfl rfl c_29; have r1 : j21_F0_4.toInt < v0_3.toInt := i_ti_lt rfl rfl c_89p29; omega)).elim
          · have c_89p29 : v0_3 ≤ j21_F0_4 := i_nlt c_89p29
            refine lv_aload_n hx hb dX2_step_92 rfl (lv_at hl 0 rfl) ?_
            refine lv_sipush (v := 256) hx hb dX2_step_93 (by decide +kernel) ?_
            refine k_put (D := (dC, dI)) (ci := 2) (v := .int 256) (C := RX2) (T := TX2) (N := 11) (ws' := [(a0, .inr (2, [.ref a0_0, .ref a0_1, .ref a0_2, .int v0_3, .int j21_F0_4, .int j21_F0_4, .int 256, .int v0_7, .int 0, .int v0_9, .int v0_10])), (a0_0, .inl (cI, 1600, .inl f0_0)), (a0_1, .inl (cJ, 25, .inr (.inl g0_1)))]) hx hb hts hinX2 tyX2 tyX2_ok nmX2 hown hK hP hD hS 0 rfl rfl 6 (by decide) w_2 rfl rfl rfl rfl (Nat.le_of_ble_eq_true rfl) rfl dX2_step_96 (fun H locs hP hD hS => ?_)
            refine lv_goto (tgt := 169) hx hb dX2_step_99 (by decide) ?_
            refine lv_iload_n hx hb dX2_step_169 rfl (lv_at hl 2 rfl) ?_
            refine lv_if_eq (tgt := 200) hx hb dX2_step_170 (by decide) (fun c_170p29p99 => ?_) (fun c_170p29p99 => ?_)
            · have c_170p29p99 : r_17 = 0 := c_170p29p99
              have f_200p29p99_1 : iR r_17 0 0 := iR_eqL c_170p29p99 g_17_0 (iR_c (n := 0) (a := 0) (b := 0) (by decide +kernel) (by decide +kernel)) (by decide +kernel)
              exact k_rv B hP hD hS dX2_step_200 ((fun k9 => match k9 with | 0 => j21_F0_4 | 1 => j21_F0_4 | 2 => 256 | 3 => v0_7 | 4 => v0_9 | 5 => v0_10 | _ => 0), (fun _ => 0), (fun _ => (fun _ => 0)), (fun _ => (fun _ => 0)), (fun _ => 0)) [0, 1, 2] rfl rfl (Nat.le_of_ble_eq_true rfl) (Nat.le_of_ble_eq_true rfl) ⟨(show iR j21_F0_4 0 1600 from hj21_F0_4), (show iR j21_F0_4 0 1600 from hj21_F0_4), (show iR 256 0 324 from (iR_c (n := 256) (a := 0) (b := 324) (by decide +kernel) (by decide +kernel))), (show iR v0_9 0 6 from (iR_w f_8_1 (by decide +kernel))), (show XTS f0_0 g0_1 v0_3.toNatClampNeg v0_4 v0_6 v0_7 v0_9 v0_10 j21_F0_4 j21_F0_4 256 v0_7 v0_9 v0_10 from (Or.inr ⟨c_4, (rn_e (Or.inl (i_leN c_89p29 hv0_3 hj21_F0_4 (by decide +kernel)))).symm.trans p21_0, (256 : Int32), v0_9, v0_10, Or.inl ⟨i_leN c_89p29 hv0_3 hj21_F0_4 (by decide +kernel), rfl, rfl, rfl, c_4, rfl⟩, Or.inr ⟨fun q9 => absurd (q9.1.symm.trans (bI_f g_17_1 c_170p29p99)) (by decide), rfl, rfl, rfl⟩⟩)), (show (0 : Int32) < v0_9 → (0 : Int32) < v0_9 from (fun h => h)), (show (v0_9 = 0) ∨ ((256 = 259)) from (Or.inl c_4))⟩
            · have c_170p29p99 : ¬ r_17 = 0 := c_170p29p99
              have f_173p29p99_1 : iR r_17 1 1 := iR_neL c_170p29p99 g_17_0 (iR_c (n := 0) (a := 0) (b := 0) (by decide +kernel) (by decide +kernel)) (by decide +kernel)
              refine lv_aload_n hx hb dX2_step_173 rfl (lv_at hl 0 rfl) ?_
              refine k_get (D := (dC, dI)) (ci := 2) (v := .int j21_F0_4) (C := RX2) (T := TX2) (N := 11) hx hb hts hinX2 hown hK hP 0 rfl rfl 5 (by decide) w_4 rfl rfl dX2_step_174 ?_
              refine lv_iload_n hx hb dX2_step_177 rfl (lv_at hl 1 rfl) ?_
              refine lv_icmp_ne (tgt := 200) hx hb dX2_step_178 (by decide) (fun c_178p29p99 => ?_) (fun c_178p29p99 => ?_)
              · have c_178p29p99 : ¬ j21_F0_4 = v0_4 := c_178p29p99
                exact k_rv B hP hD hS dX2_step_200 ((fun k9 => match k9 with | 0 => j21_F0_4 | 1 => j21_F0_4 | 2 => 256 | 3 => v0_7 | 4 => v0_9 | 5 => v0_10 | _ => 0), (fun _ => 0), (fun _ => (fun _ => 0)), (fun _ => (fun _ => 0)), (fun _ => 0)) [0, 1, 2] rfl rfl (Nat.le_of_ble_eq_true rfl) (Nat.le_of_ble_eq_true rfl) ⟨(show iR j21_F0_4 0 1600 from hj21_F0_4), (show iR j21_F0_4 0 1600 from hj21_F0_4), (show iR 256 0 324 from (iR_c (n := 256) (a := 0) (b := 324) (by decide +kernel) (by decide +kernel))), (show iR v0_9 0 6 from (iR_w f_8_1 (by decide +kernel))), (show XTS f0_0 g0_1 v0_3.toNatClampNeg v0_4 v0_6 v0_7 v0_9 v0_10 j21_F0_4 j21_F0_4 256 v0_7 v0_9 v0_10 from (Or.inr ⟨c_4, (rn_e (Or.inl (i_leN c_89p29 hv0_3 hj21_F0_4 (by decide +kernel)))).symm.trans p21_0, (256 : Int32), v0_9, v0_10, Or.inl ⟨i_leN c_89p29 hv0_3 hj21_F0_4 (by decide +kernel), rfl, rfl, rfl, c_4, rfl⟩, Or.inr ⟨fun q9 => c_178p29p99 q9.2.1, rfl, rfl, rfl⟩⟩)), (show (0 : Int32) < v0_9 → (0 : Int32) < v0_9 from (fun h => h)), (show (v0_9 = 0) ∨ ((256 = 259)) from (Or.inl c_4))⟩
              · have c_178p29p99 : j21_F0_4 = v0_4 := c_178p29p99
                refine lv_aload_n hx hb dX2_step_181 rfl (lv_at hl 0 rfl) ?_
                refine k_get (D := (dC, dI)) (ci := 2) (v := .int 256) (C := RX2) (T := TX2) (N := 11) hx hb hts hinX2 hown hK hP 0 rfl rfl 6 (by decide) w_2 rfl rfl dX2_step_182 ?_
                refine k_ci (wc := []) (wr := [(a0, .inr (2, [.ref a0_0, .ref a0_1, .ref a0_2, .int v0_3, .int j21_F0_4, .int j21_F0_4, .int 256, .int v0_7, .int 0, .int v0_9, .int v0_10])), (a0_0, .inl (cI, 1600, .inl f0_0)), (a0_1, .inl (cJ, 25, .inr (.inl g0_1)))]) (fun hPc hDc hFc => va_runS (As := [.int 256]) (rest := []) ⟨hx, hb, hml, hown, hts⟩ (s_X2_isWhole_v0 l dC dI cI cJ cZ cM 256 H.size) (va_cwS 1 hts gX2_step_X2_isWhole rfl rfl rfl (by decide +kernel) ⟨(Nat.le_of_ble_eq_true rfl), (Nat.le_of_ble_eq_true rfl)⟩) (k_pS hPc hDc hK hN hC hS hFc) rfl rfl hl.1 rfl (lv_room (Nat.le_of_ble_eq_true rfl)) dX2_step_185 ⟨(Nat.le_of_ble_eq_true rfl), (Nat.le_of_ble_eq_true rfl)⟩) hP hD hS hA [] [0, 1, 2] rfl rfl rfl rfl (by decide) (fun _ => rfl) 0 0 rfl rfl (fun r_185p29p99 u_185p29p99 H locs hw hP hD hS => ?_)
                obtain ⟨g_185p29p99_0, g_185p29p99_1⟩ := hw
                have hP : va_P (dC, dI) vwCl [(a0, .inr (2, [.ref a0_0, .ref a0_1, .ref a0_2, .int v0_3, .int j21_F0_4, .int j21_F0_4, .int 256, .int v0_7, .int 0, .int v0_9, .int v0_10])), (a0_0, .inl (cI, 1600, .inl f0_0)), (a0_1, .inl (cJ, 25, .inr (.inl g0_1)))] H := hP
                have hD : va_D A [(a0, .inr (2, [.ref a0_0, .ref a0_1, .ref a0_2, .int v0_3, .int j21_F0_4, .int j21_F0_4, .int 256, .int v0_7, .int 0, .int v0_9, .int v0_10])), (a0_0, .inl (cI, 1600, .inl f0_0)), (a0_1, .inl (cJ, 25, .inr (.inl g0_1)))] := hD
                have g_185p29p99_1 : r_185p29p99 = bI (wh 256) := g_185p29p99_1
                refine lv_if_eq (tgt := 200) hx hb dX2_step_188 (by decide) (fun c_188p29p99 => ?_) (fun c_188p29p99 => ?_)
                · have c_188p29p99 : r_185p29p99 = 0 := c_188p29p99
                  have f_200p29p99_2 : iR r_185p29p99 0 0 := iR_eqL c_188p29p99 g_185p29p99_0 (iR_c (n := 0) (a := 0) (b := 0) (by decide +kernel) (by decide +kernel)) (by decide +kernel)
                  exact k_rv B hP hD hS dX2_step_200 ((fun k9 => match k9 with | 0 => j21_F0_4 | 1 => j21_F0_4 | 2 => 256 | 3 => v0_7 | 4 => v0_9 | 5 => v0_10 | _ => 0), (fun _ => 0), (fun _ => (fun _ => 0)), (fun _ => (fun _ => 0)), (fun _ => 0)) [0, 1, 2] rfl rfl (Nat.le_of_ble_eq_true rfl) (Nat.le_of_ble_eq_true rfl) ⟨(show iR j21_F0_4 0 1600 from hj21_F0_4), (show iR j21_F0_4 0 1600 from hj21_F0_4), (show iR 256 0 324 from (iR_c (n := 256) (a := 0) (b := 324) (by decide +kernel) (by decide +kernel))), (show iR v0_9 0 6 from (iR_w f_8_1 (by decide +kernel))), (show XTS f0_0 g0_1 v0_3.toNatClampNeg v0_4 v0_6 v0_7 v0_9 v0_10 j21_F0_4 j21_F0_4 256 v0_7 v0_9 v0_10 from (Or.inr ⟨c_4, (rn_e (Or.inl (i_leN c_89p29 hv0_3 hj21_F0_4 (by decide +kernel)))).symm.trans p21_0, (256 : Int32), v0_9, v0_10, Or.inl ⟨i_leN c_89p29 hv0_3 hj21_F0_4 (by decide +kernel), rfl, rfl, rfl, c_4, rfl⟩, Or.inr ⟨fun q9 => absurd (q9.2.2.symm.trans (bI_f g_185p29p99_1 c_188p29p99)) (by decide), rfl, rfl, rfl⟩⟩)), (show (0 : Int32) < v0_9 → (0 : Int32) < v0_9 from (fun h => h)), (show (v0_9 = 0) ∨ ((256 = 259)) from (Or.inl c_4))⟩
                · have c_188p29p99 : ¬ r_185p29p99 = 0 := c_188p29p99
                  have f_191p29p99_2 : iR r_185p29p99 1 1 := iR_neL c_188p29p99 g_185p29p99_0 (iR_c (n := 0) (a := 0) (b := 0) (by decide +kernel) (by decide +kernel)) (by decide +kernel)
                  refine lv_aload_n hx hb dX2_step_191 rfl (lv_at hl 0 rfl) ?_
                  refine lv_iconst (v := 1) hx hb dX2_step_192 (by decide +kernel) ?_
                  refine lv_aload_n hx hb dX2_step_193 rfl (lv_at hl 0 rfl) ?_
                  refine k_get (D := (dC, dI)) (ci := 2) (v := .int j21_F0_4) (C := RX2) (T := TX2) (N := 11) hx hb hts hinX2 hown hK hP 0 rfl rfl 5 (by decide) w_4 rfl rfl dX2_step_194 ?_
                  refine k_cv (wc := [(a0, .inr (2, [.ref a0_0, .ref a0_1, .ref a0_2, .int v0_3, .int j21_F0_4, .int j21_F0_4, .int 256, .int v0_7, .int 0, .int v0_9, .int v0_10]))]) (wr := [(a0_0, .inl (cI, 1600, .inl f0_0)), (a0_1, .inl (cJ, 25, .inr (.inl g0_1)))]) (fun hPc hDc hFc => va_runV (As := [.int 1, .int j21_F0_4]) (rest := []) ⟨hx, hb, hml, hown, hts⟩ (s_X2_blame_v2 l dC dI cI cJ cZ cM a0 1 j21_F0_4 a0_0 a0_1 a0_2 v0_3 j21_F0_4 j21_F0_4 256 v0_7 v0_9 v0_10 (iR_c (n := 1) (a := 1) (b := 6) (by decide +kernel) (by decide +kernel)) hv0_3 hj21_F0_4 hj21_F0_4 (iR_c (n := 256) (a := 0) (b := 324) (by decide +kernel) (by decide +kernel)) (iR_w f_8_1 (by decide +kernel)) (Or.inl c_4) H.size) (cwV 2 hts gX2_step_X2_blame rfl rfl rfl (by decide +kernel) ⟨(Nat.le_of_ble_eq_true rfl), (Nat.le_of_ble_eq_true rfl)⟩) (k_pV hPc hDc hK hN hC hS hFc hP (q0 := 0) (ci := 2) rfl rfl) rfl rfl hl.1 rfl (lv_room (Nat.le_of_ble_eq_true rfl)) dX2_step_197 ⟨(Nat.le_of_ble_eq_true rfl), (Nat.le_of_ble_eq_true rfl)⟩) hP hD hS hA [0] [1, 2] rfl rfl rfl rfl (by decide) (fun _ => rfl) 0 0 rfl rfl (fun u_197p29p99 H locs hw hP hD hS => ?_)
                  obtain ⟨g_197p29p99_0, g_197p29p99_1, g_197p29p99_2, g_197p29p99_3, g_197p29p99_4⟩ := hw
                  have hP : va_P (dC, dI) vwCl [(a0_0, .inl (cI, 1600, .inl f0_0)), (a0_1, .inl (cJ, 25, .inr (.inl g0_1))), (a0, .inr (2, [.ref a0_0, .ref a0_1, .ref a0_2, .int v0_3, .int j21_F0_4, .int j21_F0_4, .int (u_197p29p99.1 0), .int v0_7, .int 0, .int (u_197p29p99.1 1), .int (u_197p29p99.1 2)]))] H := hP
                  have hD : va_D A [(a0_0, .inl (cI, 1600, .inl f0_0)), (a0_1, .inl (cJ, 25, .inr (.inl g0_1))), (a0, .inr (2, [.ref a0_0, .ref a0_1, .ref a0_2, .int v0_3, .int j21_F0_4, .int j21_F0_4, .int (u_197p29p99.1 0), .int v0_7, .int 0, .int (u_197p29p99.1 1), .int (u_197p29p99.1 2)]))] := hD
                  have g_197p29p99_2 : BL 256 v0_9 v0_10 1 j21_F0_4 (u_197p29p99.1 0) (u_197p29p99.1 1) (u_197p29p99.1 2) := g_197p29p99_2
                  have g_197p29p99_3 : (0 : Int32) < v0_9 → (0 : Int32) < (u_197p29p99.1 1) := g_197p29p99_3
                  have g_197p29p99_4 : ((u_197p29p99.1 1) = 0) ∨ (((u_197p29p99.1 0) = 259)) := g_197p29p99_4
                  obtain d197p29p99_1_0 := g_197p29p99_4.resolve_left (i_nef g_197p29p99_1 (iR_c (n := 0) (a := 0) (b := 0) (by decide +kernel) (by decide +kernel)) (by decide +kernel))
                  exact k_rv B hP hD hS dX2_step_200 ((fun k9 => match k9 with | 0 => j21_F0_4 | 1 => j21_F0_4 | 2 => (u_197p29p99.1 0) | 3 => v0_7 | 4 => (u_197p29p99.1 1) | 5 => (u_197p29p99.1 2) | _ => 0), (fun _ => 0), (fun _ => (fun _ => 0)), (fun _ => (fun _ => 0)), (fun _ => 0)) [2, 0, 1] rfl rfl (Nat.le_of_ble_eq_true rfl) (Nat.le_of_ble_eq_true rfl) ⟨(show iR j21_F0_4 0 1600 from hj21_F0_4), (show iR j21_F0_4 0 1600 from hj21_F0_4), (show iR (u_197p29p99.1 0) 0 324 from (iR_w g_197p29p99_0 (by decide +kernel))), (show iR (u_197p29p99.1 1) 0 6 from (iR_w g_197p29p99_1 (by decide +kernel))), (show XTS f0_0 g0_1 v0_3.toNatClampNeg v0_4 v0_6 v0_7 v0_9 v0_10 j21_F0_4 j21_F0_4 (u_197p29p99.1 0) v0_7 (u_197p29p99.1 1) (u_197p29p99.1 2) from (Or.inr ⟨c_4, (rn_e (Or.inl (i_leN c_89p29 hv0_3 hj21_F0_4 (by decide +kernel)))).symm.trans p21_0, (256 : Int32), v0_9, v0_10, Or.inl ⟨i_leN c_89p29 hv0_3 hj21_F0_4 (by decide +kernel), rfl, rfl, rfl, c_4, rfl⟩, Or.inl ⟨(bI_t g_17_1 c_170p29p99), c_178p29p99, (bI_t g_185p29p99_1 c_188p29p99), g_197p29p99_2⟩⟩)), (show (0 : Int32) < v0_9 → (0 : Int32) < (u_197p29p99.1 1) from (fun h => g_197p29p99_3 ((fun h => h) h))), (show ((u_197p29p99.1 1) = 0) ∨ (((u_197p29p99.1 0) = 259)) from (Or.inr d197p29p99_1_0))⟩
        · have c_29 : j21_F0_4 < v0_3 := i_nle c_29
          have f_32_1 : iR j21_F0_4 0 1599 := iR_ltL c_29 hj21_F0_4 hv0_3 (by decide +kernel)
          have f_32_2 : iR v0_3 1 1600 := iR_ltR c_29 hj21_F0_4 hv0_3 (by decide +kernel)
          refine lv_aload_n hx hb dX2_step_32 rfl (lv_at hl 0 rfl) ?_
          refine k_get (D := (dC, dI)) (ci := 2) (v := .ref a0_0) (C := RX2) (T := TX2) (N := 11) hx hb hts hinX2 hown hK hP 0 rfl rfl 0 (by decide) w_5 rfl rfl dX2_step_33 ?_
          refine lv_aload_n hx hb dX2_step_36 rfl (lv_at hl 0 rfl) ?_
          refine k_get (D := (dC, dI)) (ci := 2) (v := .int j21_F0_4) (C := RX2) (T := TX2) (N := 11) hx hb hts hinX2 hown hK hP 0 rfl rfl 4 (by decide) w_1 rfl rfl dX2_step_37 ?_
          refine va_iald hx hb hK hP 1 0 rfl rfl (iR_vp f_32_1 (by decide +kernel)) dX2_step_40 ?_
          have f_40_3 : iR (f0_0 j21_F0_4.toNatClampNeg) 0 255 := hf0_0 _
          refine lv_bipush (v := 32) hx hb dX2_step_41 (by decide +kernel) ?_
          refine lv_icmp_eq (tgt := 60) hx hb dX2_step_43 (by decide) (fun c_43 => ?_) (fun c_43 => ?_)
          · have c_43 : (f0_0 j21_F0_4.toNatClampNeg) = 32 := c_43
            have f_60_4 : iR (f0_0 j21_F0_4.toNatClampNeg) 32 32 := iR_eqL c_43 f_40_3 (iR_c (n := 32) (a := 32) (b := 32) (by decide +kernel) (by decide +kernel)) (by decide +kernel)
            refine lv_aload_n hx hb dX2_step_60 rfl (lv_at hl 0 rfl) ?_
            refine lv_dup hx hb dX2_step_61 rfl ?_
            refine k_get (D := (dC, dI)) (ci := 2) (v := .int j21_F0_4) (C := RX2) (T := TX2) (N := 11) hx hb hts hinX2 hown hK hP 0 rfl rfl 4 (by decide) w_1 rfl rfl dX2_step_62 ?_
            refine lv_iconst (v := 1) hx hb dX2_step_65 (by decide +kernel) ?_
            refine lv_iadd hx hb dX2_step_66 ?_
            refine lv_topi (fun y_66p43 ey_66p43 => ?_)
            have f_66p43_5 : iR y_66p43 1 1600 := iR_add ey_66p43 f_32_1 (iR_c (n := 1) (a := 1) (b := 1) (by decide +kernel) (by decide +kernel)) (by decide +kernel)
            refine k_put (D := (dC, dI)) (ci := 2) (v := .int y_66p43) (C := RX2) (T := TX2) (N := 11) (ws' := [(a0, .inr (2, [.ref a0_0, .ref a0_1, .ref a0_2, .int v0_3, .int y_66p43, .int v0_5, .int v0_6, .int v0_7, .int 0, .int v0_9, .int v0_10])), (a0_0, .inl (cI, 1600, .inl f0_0)), (a0_1, .inl (cJ, 25, .inr (.inl g0_1)))]) hx hb hts hinX2 tyX2 tyX2_ok nmX2 hown hK hP hD hS 0 rfl rfl 4 (by decide) w_1 rfl rfl rfl rfl (Nat.le_of_ble_eq_true rfl) rfl dX2_step_67 (fun H locs hP hD hS => ?_)
            refine lv_goto (tgt := 21) hx hb dX2_step_70 (by decide) ?_
            exact ih_21 y_66p43 (iR_w f_66p43_5 (by decide +kernel)) (show rn cB f0_0 v0_3.toNatClampNeg y_66p43.toNatClampNeg = rn cB f0_0 v0_3.toNatClampNeg v0_4.toNatClampNeg from (by rw [i_succ ey_66p43 f_32_1 (by decide +kernel), rn_s (i_ltN c_29 f_32_1 f_32_2 (by decide +kernel)) (cB_y (Or.inl c_43))]; exact p21_0)) (m_up (B := 1600) hm_21 ey_66p43 f_32_1 (by decide +kernel)) H locs ls hP hD hS (lv_sub hl [0, 1, 2] rfl)
          · have c_43 : ¬ (f0_0 j21_F0_4.toNatClampNeg) = 32 := c_43
            refine lv_aload_n hx hb dX2_step_46 rfl (lv_at hl 0 rfl) ?_
            refine k_get (D := (dC, dI)) (ci := 2) (v := .ref a0_0) (C := RX2) (T := TX2) (N := 11) hx hb hts hinX2 hown hK hP 0 rfl rfl 0 (by decide) w_5 rfl rfl dX2_step_47 ?_
            refine lv_aload_n hx hb dX2_step_50 rfl (lv_at hl 0 rfl) ?_
            refine k_get (D := (dC, dI)) (ci := 2) (v := .int j21_F0_4) (C := RX2) (T := TX2) (N := 11) hx hb hts hinX2 hown hK hP 0 rfl rfl 4 (by decide) w_1 rfl rfl dX2_step_51 ?_
            refine va_iald hx hb hK hP 1 0 rfl rfl (iR_vp f_32_1 (by decide +kernel)) dX2_step_54 ?_
            refine lv_bipush (v := 10) hx hb dX2_step_55 (by decide +kernel) ?_
            refine lv_icmp_ne (tgt := 73) hx hb dX2_step_57 (by decide) (fun c_57 => ?_) (fun c_57 => ?_)
            · have c_57 : ¬ (f0_0 j21_F0_4.toNatClampNeg) = 10 := c_57
              refine lv_aload_n hx hb dX2_step_73 rfl (lv_at hl 0 rfl) ?_
              refine lv_aload_n hx hb dX2_step_74 rfl (lv_at hl 0 rfl) ?_
              refine k_get (D := (dC, dI)) (ci := 2) (v := .int j21_F0_4) (C := RX2) (T := TX2) (N := 11) hx hb hts hinX2 hown hK hP 0 rfl rfl 4 (by decide) w_1 rfl rfl dX2_step_75 ?_
              refine k_put (D := (dC, dI)) (ci := 2) (v := .int j21_F0_4) (C := RX2) (T := TX2) (N := 11) (ws' := [(a0, .inr (2, [.ref a0_0, .ref a0_1, .ref a0_2, .int v0_3, .int j21_F0_4, .int j21_F0_4, .int v0_6, .int v0_7, .int 0, .int v0_9, .int v0_10])), (a0_0, .inl (cI, 1600, .inl f0_0)), (a0_1, .inl (cJ, 25, .inr (.inl g0_1)))]) hx hb hts hinX2 tyX2 tyX2_ok nmX2 hown hK hP hD hS 0 rfl rfl 5 (by decide) w_4 rfl rfl rfl rfl (Nat.le_of_ble_eq_true rfl) rfl dX2_step_78 (fun H locs hP hD hS => ?_)
              refine lv_aload_n hx hb dX2_step_81 rfl (lv_at hl 0 rfl) ?_
              refine k_get (D := (dC, dI)) (ci := 2) (v := .int j21_F0_4) (C := RX2) (T := TX2) (N := 11) hx hb hts hinX2 hown hK hP 0 rfl rfl 4 (by decide) w_1 rfl rfl dX2_step_82 ?_
              refine lv_aload_n hx hb dX2_step_85 rfl (lv_at hl 0 rfl) ?_
              refine k_get (D := (dC, dI)) (ci := 2) (v := .int v0_3) (C := RX2) (T := TX2) (N := 11) hx hb hts hinX2 hown hK hP 0 rfl rfl 3 (by decide) w_3 rfl rfl dX2_step_86 ?_
              refine lv_icmp_lt (tgt := 102) hx hb dX2_step_89 (by decide) (fun c_89p57 => ?_) (fun c_89p57 => ?_)
              · have c_89p57 : j21_F0_4 < v0_3 := c_89p57
                refine lv_aload_n hx hb dX2_step_102 rfl (lv_at hl 0 rfl) ?_
                refine k_get (D := (dC, dI)) (ci := 2) (v := .ref a0_0) (C := RX2) (T := TX2) (N := 11) hx hb hts hinX2 hown hK hP 0 rfl rfl 0 (by decide) w_5 rfl rfl dX2_step_103 ?_
                refine lv_aload_n hx hb dX2_step_106 rfl (lv_at hl 0 rfl) ?_
                refine k_get (D := (dC, dI)) (ci := 2) (v := .int j21_F0_4) (C := RX2) (T := TX2) (N := 11) hx hb hts hinX2 hown hK hP 0 rfl rfl 4 (by decide) w_1 rfl rfl dX2_step_107 ?_
                refine va_iald hx hb hK hP 1 0 rfl rfl (iR_vp f_32_1 (by decide +kernel)) dX2_step_110 ?_
                refine k_ci (wc := []) (wr := [(a0, .inr (2, [.ref a0_0, .ref a0_1, .ref a0_2, .int v0_3, .int j21_F0_4, .int j21_F0_4, .int v0_6, .int v0_7, .int 0, .int v0_9, .int v0_10])), (a0_0, .inl (cI, 1600, .inl f0_0)), (a0_1, .inl (cJ, 25, .inr (.inl g0_1)))]) (fun hPc hDc hFc => va_runS (As := [.int (f0_0 j21_F0_4.toNatClampNeg)]) (rest := []) ⟨hx, hb, hml, hown, hts⟩ (s_X2_isLetter_v0 l dC dI cI cJ cZ cM (f0_0 j21_F0_4.toNatClampNeg) H.size) (va_cwS 1 hts gX2_step_X2_isLetter rfl rfl rfl (by decide +kernel) ⟨(Nat.le_of_ble_eq_true rfl), (Nat.le_of_ble_eq_true rfl)⟩) (k_pS hPc hDc hK hN hC hS hFc) rfl rfl hl.1 rfl (lv_room (Nat.le_of_ble_eq_true rfl)) dX2_step_111 ⟨(Nat.le_of_ble_eq_true rfl), (Nat.le_of_ble_eq_true rfl)⟩) hP hD hS hA [] [0, 1, 2] rfl rfl rfl rfl (by decide) (fun _ => rfl) 0 0 rfl rfl (fun r_111p57 u_111p57 H locs hw hP hD hS => ?_)
                obtain ⟨g_111p57_0, g_111p57_1⟩ := hw
                have hP : va_P (dC, dI) vwCl [(a0, .inr (2, [.ref a0_0, .ref a0_1, .ref a0_2, .int v0_3, .int j21_F0_4, .int j21_F0_4, .int v0_6, .int v0_7, .int 0, .int v0_9, .int v0_10])), (a0_0, .inl (cI, 1600, .inl f0_0)), (a0_1, .inl (cJ, 25, .inr (.inl g0_1)))] H := hP
                have hD : va_D A [(a0, .inr (2, [.ref a0_0, .ref a0_1, .ref a0_2, .int v0_3, .int j21_F0_4, .int j21_F0_4, .int v0_6, .int v0_7, .int 0, .int v0_9, .int v0_10])), (a0_0, .inl (cI, 1600, .inl f0_0)), (a0_1, .inl (cJ, 25, .inr (.inl g0_1)))] := hD
                have g_111p57_1 : r_111p57 = bI (cL (f0_0 j21_F0_4.toNatClampNeg)) := g_111p57_1
                refine lv_if_eq (tgt := 124) hx hb dX2_step_114 (by decide) (fun c_114p57 => ?_) (fun c_114p57 => ?_)
                · have c_114p57 : r_111p57 = 0 := c_114p57
                  have f_124p57_4 : iR r_111p57 0 0 := iR_eqL c_114p57 g_111p57_0 (iR_c (n := 0) (a := 0) (b := 0) (by decide +kernel) (by decide +kernel)) (by decide +kernel)
                  refine lv_aload_n hx hb dX2_step_124 rfl (lv_at hl 0 rfl) ?_
                  refine k_get (D := (dC, dI)) (ci := 2) (v := .ref a0_0) (C := RX2) (T := TX2) (N := 11) hx hb hts hinX2 hown hK hP 0 rfl rfl 0 (by decide) w_5 rfl rfl dX2_step_125 ?_
                  refine lv_aload_n hx hb dX2_step_128 rfl (lv_at hl 0 rfl) ?_
                  refine k_get (D := (dC, dI)) (ci := 2) (v := .int j21_F0_4) (C := RX2) (T := TX2) (N := 11) hx hb hts hinX2 hown hK hP 0 rfl rfl 4 (by decide) w_1 rfl rfl dX2_step_129 ?_
                  refine va_iald hx hb hK hP 1 0 rfl rfl (iR_vp f_32_1 (by decide +kernel)) dX2_step_132 ?_
                  refine k_ci (wc := []) (wr := [(a0, .inr (2, [.ref a0_0, .ref a0_1, .ref a0_2, .int v0_3, .int j21_F0_4, .int j21_F0_4, .int v0_6, .int v0_7, .int 0, .int v0_9, .int v0_10])), (a0_0, .inl (cI, 1600, .inl f0_0)), (a0_1, .inl (cJ, 25, .inr (.inl g0_1)))]) (fun hPc hDc hFc => va_runS (As := [.int (f0_0 j21_F0_4.toNatClampNeg)]) (rest := []) ⟨hx, hb, hml, hown, hts⟩ (s_X2_isDigit_v0 l dC dI cI cJ cZ cM (f0_0 j21_F0_4.toNatClampNeg) H.size) (va_cwS 1 hts gX2_step_X2_isDigit rfl rfl rfl (by decide +kernel) ⟨(Nat.le_of_ble_eq_true rfl), (Nat.le_of_ble_eq_true rfl)⟩) (k_pS hPc hDc hK hN hC hS hFc) rfl rfl hl.1 rfl (lv_room (Nat.le_of_ble_eq_true rfl)) dX2_step_133 ⟨(Nat.le_of_ble_eq_true rfl), (Nat.le_of_ble_eq_true rfl)⟩) hP hD hS hA [] [0, 1, 2] rfl rfl rfl rfl (by decide) (fun _ => rfl) 0 0 rfl rfl (fun r_133p57 u_133p57 H locs hw hP hD hS => ?_)
                  obtain ⟨g_133p57_0, g_133p57_1⟩ := hw
                  have hP : va_P (dC, dI) vwCl [(a0, .inr (2, [.ref a0_0, .ref a0_1, .ref a0_2, .int v0_3, .int j21_F0_4, .int j21_F0_4, .int v0_6, .int v0_7, .int 0, .int v0_9, .int v0_10])), (a0_0, .inl (cI, 1600, .inl f0_0)), (a0_1, .inl (cJ, 25, .inr (.inl g0_1)))] H := hP
                  have hD : va_D A [(a0, .inr (2, [.ref a0_0, .ref a0_1, .ref a0_2, .int v0_3, .int j21_F0_4, .int j21_F0_4, .int v0_6, .int v0_7, .int 0, .int v0_9, .int v0_10])), (a0_0, .inl (cI, 1600, .inl f0_0)), (a0_1, .inl (cJ, 25, .inr (.inl g0_1)))] := hD
                  have g_133p57_1 : r_133p57 = bI (cD (f0_0 j21_F0_4.toNatClampNeg)) := g_133p57_1
                  refine lv_if_eq (tgt := 146) hx hb dX2_step_136 (by decide) (fun c_136p57 => ?_) (fun c_136p57 => ?_)
                  · have c_136p57 : r_133p57 = 0 := c_136p57
                    have f_146p57_5 : iR r_133p57 0 0 := iR_eqL c_136p57 g_133p57_0 (iR_c (n := 0) (a := 0) (b := 0) (by decide +kernel) (by decide +kernel)) (by decide +kernel)
                    refine lv_aload_n hx hb dX2_step_146 rfl (lv_at hl 0 rfl) ?_
                    refine lv_aload_n hx hb dX2_step_147 rfl (lv_at hl 0 rfl) ?_
                    refine k_get (D := (dC, dI)) (ci := 2) (v := .ref a0_0) (C := RX2) (T := TX2) (N := 11) hx hb hts hinX2 hown hK hP 0 rfl rfl 0 (by decide) w_5 rfl rfl dX2_step_148 ?_
                    refine lv_aload_n hx hb dX2_step_151 rfl (lv_at hl 0 rfl) ?_
                    refine k_get (D := (dC, dI)) (ci := 2) (v := .int j21_F0_4) (C := RX2) (T := TX2) (N := 11) hx hb hts hinX2 hown hK hP 0 rfl rfl 4 (by decide) w_1 rfl rfl dX2_step_152 ?_
                    refine va_iald hx hb hK hP 1 0 rfl rfl (iR_vp f_32_1 (by decide +kernel)) dX2_step_155 ?_
                    refine k_put (D := (dC, dI)) (ci := 2) (v := .int (f0_0 j21_F0_4.toNatClampNeg)) (C := RX2) (T := TX2) (N := 11) (ws' := [(a0, .inr (2, [.ref a0_0, .ref a0_1, .ref a0_2, .int v0_3, .int j21_F0_4, .int j21_F0_4, .int (f0_0 j21_F0_4.toNatClampNeg), .int v0_7, .int 0, .int v0_9, .int v0_10])), (a0_0, .inl (cI, 1600, .inl f0_0)), (a0_1, .inl (cJ, 25, .inr (.inl g0_1)))]) hx hb hts hinX2 tyX2 tyX2_ok nmX2 hown hK hP hD hS 0 rfl rfl 6 (by decide) w_2 rfl rfl rfl rfl (Nat.le_of_ble_eq_true rfl) rfl dX2_step_156 (fun H locs hP hD hS => ?_)
                    refine lv_aload_n hx hb dX2_step_159 rfl (lv_at hl 0 rfl) ?_
                    refine lv_dup hx hb dX2_step_160 rfl ?_
                    refine k_get (D := (dC, dI)) (ci := 2) (v := .int j21_F0_4) (C := RX2) (T := TX2) (N := 11) hx hb hts hinX2 hown hK hP 0 rfl rfl 4 (by decide) w_1 rfl rfl dX2_step_161 ?_
                    refine lv_iconst (v := 1) hx hb dX2_step_164 (by decide +kernel) ?_
                    refine lv_iadd hx hb dX2_step_165 ?_
                    refine lv_topi (fun y_165p57 ey_165p57 => ?_)
                    have f_165p57_6 : iR y_165p57 1 1600 := iR_add ey_165p57 f_32_1 (iR_c (n := 1) (a := 1) (b := 1) (by decide +kernel) (by decide +kernel)) (by decide +kernel)
                    refine k_put (D := (dC, dI)) (ci := 2) (v := .int y_165p57) (C := RX2) (T := TX2) (N := 11) (ws' := [(a0, .inr (2, [.ref a0_0, .ref a0_1, .ref a0_2, .int v0_3, .int y_165p57, .int j21_F0_4, .int (f0_0 j21_F0_4.toNatClampNeg), .int v0_7, .int 0, .int v0_9, .int v0_10])), (a0_0, .inl (cI, 1600, .inl f0_0)), (a0_1, .inl (cJ, 25, .inr (.inl g0_1)))]) hx hb hts hinX2 tyX2 tyX2_ok nmX2 hown hK hP hD hS 0 rfl rfl 4 (by decide) w_1 rfl rfl rfl rfl (Nat.le_of_ble_eq_true rfl) rfl dX2_step_166 (fun H locs hP hD hS => ?_)
                    refine lv_iload_n hx hb dX2_step_169 rfl (lv_at hl 2 rfl) ?_
                    refine lv_if_eq (tgt := 200) hx hb dX2_step_170 (by decide) (fun c_170p57p166 => ?_) (fun c_170p57p166 => ?_)
                    · have c_170p57p166 : r_17 = 0 := c_170p57p166
                      have f_200p57p166_7 : iR r_17 0 0 := iR_eqL c_170p57p166 g_17_0 (iR_c (n := 0) (a := 0) (b := 0) (by decide +kernel) (by decide +kernel)) (by decide +kernel)
                      exact k_rv B hP hD hS dX2_step_200 ((fun k9 => match k9 with | 0 => y_165p57 | 1 => j21_F0_4 | 2 => (f0_0 j21_F0_4.toNatClampNeg) | 3 => v0_7 | 4 => v0_9 | 5 => v0_10 | _ => 0), (fun _ => 0), (fun _ => (fun _ => 0)), (fun _ => (fun _ => 0)), (fun _ => 0)) [0, 1, 2] rfl rfl (Nat.le_of_ble_eq_true rfl) (Nat.le_of_ble_eq_true rfl) ⟨(show iR y_165p57 0 1600 from (iR_w f_165p57_6 (by decide +kernel))), (show iR j21_F0_4 0 1600 from (iR_w f_32_1 (by decide +kernel))), (show iR (f0_0 j21_F0_4.toNatClampNeg) 0 324 from (iR_w f_40_3 (by decide +kernel))), (show iR v0_9 0 6 from (iR_w f_8_1 (by decide +kernel))), (show XTS f0_0 g0_1 v0_3.toNatClampNeg v0_4 v0_6 v0_7 v0_9 v0_10 y_165p57 j21_F0_4 (f0_0 j21_F0_4.toNatClampNeg) v0_7 v0_9 v0_10 from (Or.inr ⟨c_4, (rn_e (Or.inr (cB_n c_43 c_57))).symm.trans p21_0, (f0_0 j21_F0_4.toNatClampNeg), v0_9, v0_10, Or.inr (Or.inr (Or.inr ⟨(i_ltN c_89p57 f_32_1 f_32_2 (by decide +kernel)), (bI_f g_111p57_1 c_114p57), (bI_f g_133p57_1 c_136p57), ey_165p57, rfl, rfl, c_4, rfl⟩)), Or.inr ⟨fun q9 => absurd (q9.1.symm.trans (bI_f g_17_1 c_170p57p166)) (by decide), rfl, rfl, rfl⟩⟩)), (show (0 : Int32) < v0_9 → (0 : Int32) < v0_9 from (fun h => h)), (show (v0_9 = 0) ∨ (((f0_0 j21_F0_4.toNatClampNeg) = 259)) from (Or.inl c_4))⟩
                    · have c_170p57p166 : ¬ r_17 = 0 := c_170p57p166
                      have f_173p57p166_7 : iR r_17 1 1 := iR_neL c_170p57p166 g_17_0 (iR_c (n := 0) (a := 0) (b := 0) (by decide +kernel) (by decide +kernel)) (by decide +kernel)
                      refine lv_aload_n hx hb dX2_step_173 rfl (lv_at hl 0 rfl) ?_
                      refine k_get (D := (dC, dI)) (ci := 2) (v := .int j21_F0_4) (C := RX2) (T := TX2) (N := 11) hx hb hts hinX2 hown hK hP 0 rfl rfl 5 (by decide) w_4 rfl rfl dX2_step_174 ?_
                      refine lv_iload_n hx hb dX2_step_177 rfl (lv_at hl 1 rfl) ?_
                      refine lv_icmp_ne (tgt := 200) hx hb dX2_step_178 (by decide) (fun c_178p57p166 => ?_) (fun c_178p57p166 => ?_)
                      · have c_178p57p166 : ¬ j21_F0_4 = v0_4 := c_178p57p166
                        exact k_rv B hP hD hS dX2_step_200 ((fun k9 => match k9 with | 0 => y_165p57 | 1 => j21_F0_4 | 2 => (f0_0 j21_F0_4.toNatClampNeg) | 3 => v0_7 | 4 => v0_9 | 5 => v0_10 | _ => 0), (fun _ => 0), (fun _ => (fun _ => 0)), (fun _ => (fun _ => 0)), (fun _ => 0)) [0, 1, 2] rfl rfl (Nat.le_of_ble_eq_true rfl) (Nat.le_of_ble_eq_true rfl) ⟨(show iR y_165p57 0 1600 from (iR_w f_165p57_6 (by decide +kernel))), (show iR j21_F0_4 0 1600 from (iR_w f_32_1 (by decide +kernel))), (show iR (f0_0 j21_F0_4.toNatClampNeg) 0 324 from (iR_w f_40_3 (by decide +kernel))), (show iR v0_9 0 6 from (iR_w f_8_1 (by decide +kernel))), (show XTS f0_0 g0_1 v0_3.toNatClampNeg v0_4 v0_6 v0_7 v0_9 v0_10 y_165p57 j21_F0_4 (f0_0 j21_F0_4.toNatClampNeg) v0_7 v0_9 v0_10 from (Or.inr ⟨c_4, (rn_e (Or.inr (cB_n c_43 c_57))).symm.trans p21_0, (f0_0 j21_F0_4.toNatClampNeg), v0_9, v0_10, Or.inr (Or.inr (Or.inr ⟨(i_ltN c_89p57 f_32_1 f_32_2 (by decide +kernel)), (bI_f g_111p57_1 c_114p57), (bI_f g_133p57_1 c_136p57), ey_165p57, rfl, rfl, c_4, rfl⟩)), Or.inr ⟨fun q9 => c_178p57p166 q9.2.1, rfl, rfl, rfl⟩⟩)), (show (0 : Int32) < v0_9 → (0 : Int32) < v0_9 from (fun h => h)), (show (v0_9 = 0) ∨ (((f0_0 j21_F0_4.toNatClampNeg) = 259)) from (Or.inl c_4))⟩
                      · have c_178p57p166 : j21_F0_4 = v0_4 := c_178p57p166
                        have f_181p57p166_8 : iR v0_4 0 1599 := iR_eqR c_178p57p166 f_32_1 hv0_4 (by decide +kernel)
                        refine lv_aload_n hx hb dX2_step_181 rfl (lv_at hl 0 rfl) ?_
                        refine k_get (D := (dC, dI)) (ci := 2) (v := .int (f0_0 j21_F0_4.toNatClampNeg)) (C := RX2) (T := TX2) (N := 11) hx hb hts hinX2 hown hK hP 0 rfl rfl 6 (by decide) w_2 rfl rfl dX2_step_182 ?_
                        refine k_ci (wc := []) (wr := [(a0, .inr (2, [.ref a0_0, .ref a0_1, .ref a0_2, .int v0_3, .int y_165p57, .int j21_F0_4, .int (f0_0 j21_F0_4.toNatClampNeg), .int v0_7, .int 0, .int v0_9, .int v0_10])), (a0_0, .inl (cI, 1600, .inl f0_0)), (a0_1, .inl (cJ, 25, .inr (.inl g0_1)))]) (fun hPc hDc hFc => va_runS (As := [.int (f0_0 j21_F0_4.toNatClampNeg)]) (rest := []) ⟨hx, hb, hml, hown, hts⟩ (s_X2_isWhole_v0 l dC dI cI cJ cZ cM (f0_0 j21_F0_4.toNatClampNeg) H.size) (va_cwS 1 hts gX2_step_X2_isWhole rfl rfl rfl (by decide +kernel) ⟨(Nat.le_of_ble_eq_true rfl), (Nat.le_of_ble_eq_true rfl)⟩) (k_pS hPc hDc hK hN hC hS hFc) rfl rfl hl.1 rfl (lv_room (Nat.le_of_ble_eq_true rfl)) dX2_step_185 ⟨(Nat.le_of_ble_eq_true rfl), (Nat.le_of_ble_eq_true rfl)⟩) hP hD hS hA [] [0, 1, 2] rfl rfl rfl rfl (by decide) (fun _ => rfl) 0 0 rfl rfl (fun r_185p57p166 u_185p57p166 H locs hw hP hD hS => ?_)
                        obtain ⟨g_185p57p166_0, g_185p57p166_1⟩ := hw
                        have hP : va_P (dC, dI) vwCl [(a0, .inr (2, [.ref a0_0, .ref a0_1, .ref a0_2, .int v0_3, .int y_165p57, .int j21_F0_4, .int (f0_0 j21_F0_4.toNatClampNeg), .int v0_7, .int 0, .int v0_9, .int v0_10])), (a0_0, .inl (cI, 1600, .inl f0_0)), (a0_1, .inl (cJ, 25, .inr (.inl g0_1)))] H := hP
                        have hD : va_D A [(a0, .inr (2, [.ref a0_0, .ref a0_1, .ref a0_2, .int v0_3, .int y_165p57, .int j21_F0_4, .int (f0_0 j21_F0_4.toNatClampNeg), .int v0_7, .int 0, .int v0_9, .int v0_10])), (a0_0, .inl (cI, 1600, .inl f0_0)), (a0_1, .inl (cJ, 25, .inr (.inl g0_1)))] := hD
                        have g_185p57p166_1 : r_185p57p166 = bI (wh (f0_0 j21_F0_4.toNatClampNeg)) := g_185p57p166_1
                        refine lv_if_eq (tgt := 200) hx hb dX2_step_188 (by decide) (fun c_188p57p166 => ?_) (fun c_188p57p166 => ?_)
                        · have c_188p57p166 : r_185p57p166 = 0 := c_188p57p166
                          have f_200p57p166_9 : iR r_185p57p166 0 0 := iR_eqL c_188p57p166 g_185p57p166_0 (iR_c (n := 0) (a := 0) (b := 0) (by decide +kernel) (by decide +kernel)) (by decide +kernel)
                          exact k_rv B hP hD hS dX2_step_200 ((fun k9 => match k9 with | 0 => y_165p57 | 1 => j21_F0_4 | 2 => (f0_0 j21_F0_4.toNatClampNeg) | 3 => v0_7 | 4 => v0_9 | 5 => v0_10 | _ => 0), (fun _ => 0), (fun _ => (fun _ => 0)), (fun _ => (fun _ => 0)), (fun _ => 0)) [0, 1, 2] rfl rfl (Nat.le_of_ble_eq_true rfl) (Nat.le_of_ble_eq_true rfl) ⟨(show iR y_165p57 0 1600 from (iR_w f_165p57_6 (by decide +kernel))), (show iR j21_F0_4 0 1600 from (iR_w f_32_1 (by decide +kernel))), (show iR (f0_0 j21_F0_4.toNatClampNeg) 0 324 from (iR_w f_40_3 (by decide +kernel))), (show iR v0_9 0 6 from (iR_w f_8_1 (by decide +kernel))), (show XTS f0_0 g0_1 v0_3.toNatClampNeg v0_4 v0_6 v0_7 v0_9 v0_10 y_165p57 j21_F0_4 (f0_0 j21_F0_4.toNatClampNeg) v0_7 v0_9 v0_10 from (Or.inr ⟨c_4, (rn_e (Or.inr (cB_n c_43 c_57))).symm.trans p21_0, (f0_0 j21_F0_4.toNatClampNeg), v0_9, v0_10, Or.inr (Or.inr (Or.inr ⟨(i_ltN c_89p57 f_32_1 f_32_2 (by decide +kernel)), (bI_f g_111p57_1 c_114p57), (bI_f g_133p57_1 c_136p57), ey_165p57, rfl, rfl, c_4, rfl⟩)), Or.inr ⟨fun q9 => absurd (q9.2.2.symm.trans (bI_f g_185p57p166_1 c_188p57p166)) (by decide), rfl, rfl, rfl⟩⟩)), (show (0 : Int32) < v0_9 → (0 : Int32) < v0_9 from (fun h => h)), (show (v0_9 = 0) ∨ (((f0_0 j21_F0_4.toNatClampNeg) = 259)) from (Or.inl c_4))⟩
                        · have c_188p57p166 : ¬ r_185p57p166 = 0 := c_188p57p166
                          have f_191p57p166_9 : iR r_185p57p166 1 1 := iR_neL c_188p57p166 g_185p57p166_0 (iR_c (n := 0) (a := 0) (b := 0) (by decide +kernel) (by decide +kernel)) (by decide +kernel)
                          refine lv_aload_n hx hb dX2_step_191 rfl (lv_at hl 0 rfl) ?_
                          refine lv_iconst (v := 1) hx hb dX2_step_192 (by decide +kernel) ?_
                          refine lv_aload_n hx hb dX2_step_193 rfl (lv_at hl 0 rfl) ?_
                          refine k_get (D := (dC, dI)) (ci := 2) (v := .int j21_F0_4) (C := RX2) (T := TX2) (N := 11) hx hb hts hinX2 hown hK hP 0 rfl rfl 5 (by decide) w_4 rfl rfl dX2_step_194 ?_
                          refine k_cv (wc := [(a0, .inr (2, [.ref a0_0, .ref a0_1, .ref a0_2, .int v0_3, .int y_165p57, .int j21_F0_4, .int (f0_0 j21_F0_4.toNatClampNeg), .int v0_7, .int 0, .int v0_9, .int v0_10]))]) (wr := [(a0_0, .inl (cI, 1600, .inl f0_0)), (a0_1, .inl (cJ, 25, .inr (.inl g0_1)))]) (fun hPc hDc hFc => va_runV (As := [.int 1, .int j21_F0_4]) (rest := []) ⟨hx, hb, hml, hown, hts⟩ (s_X2_blame_v2 l dC dI cI cJ cZ cM a0 1 j21_F0_4 a0_0 a0_1 a0_2 v0_3 y_165p57 j21_F0_4 (f0_0 j21_F0_4.toNatClampNeg) v0_7 v0_9 v0_10 (iR_c (n := 1) (a := 1) (b := 6) (by decide +kernel) (by decide +kernel)) (iR_w f_32_2 (by decide +kernel)) (iR_w f_165p57_6 (by decide +kernel)) (iR_w f_32_1 (by decide +kernel)) (iR_w f_40_3 (by decide +kernel)) (iR_w f_8_1 (by decide +kernel)) (Or.inl c_4) H.size) (cwV 2 hts gX2_step_X2_blame rfl rfl rfl (by decide +kernel) ⟨(Nat.le_of_ble_eq_true rfl), (Nat.le_of_ble_eq_true rfl)⟩) (k_pV hPc hDc hK hN hC hS hFc hP (q0 := 0) (ci := 2) rfl rfl) rfl rfl hl.1 rfl (lv_room (Nat.le_of_ble_eq_true rfl)) dX2_step_197 ⟨(Nat.le_of_ble_eq_true rfl), (Nat.le_of_ble_eq_true rfl)⟩) hP hD hS hA [0] [1, 2] rfl rfl rfl rfl (by decide) (fun _ => rfl) 0 0 rfl rfl (fun u_197p57p166 H locs hw hP hD hS => ?_)
                          obtain ⟨g_197p57p166_0, g_197p57p166_1, g_197p57p166_2, g_197p57p166_3, g_197p57p166_4⟩ := hw
                          have hP : va_P (dC, dI) vwCl [(a0_0, .inl (cI, 1600, .inl f0_0)), (a0_1, .inl (cJ, 25, .inr (.inl g0_1))), (a0, .inr (2, [.ref a0_0, .ref a0_1, .ref a0_2, .int v0_3, .int y_165p57, .int j21_F0_4, .int (u_197p57p166.1 0), .int v0_7, .int 0, .int (u_197p57p166.1 1), .int (u_197p57p166.1 2)]))] H := hP
                          have hD : va_D A [(a0_0, .inl (cI, 1600, .inl f0_0)), (a0_1, .inl (cJ, 25, .inr (.inl g0_1))), (a0, .inr (2, [.ref a0_0, .ref a0_1, .ref a0_2, .int v0_3, .int y_165p57, .int j21_F0_4, .int (u_197p57p166.1 0), .int v0_7, .int 0, .int (u_197p57p166.1 1), .int (u_197p57p166.1 2)]))] := hD
                          have g_197p57p166_2 : BL (f0_0 j21_F0_4.toNatClampNeg) v0_9 v0_10 1 j21_F0_4 (u_197p57p166.1 0) (u_197p57p166.1 1) (u_197p57p166.1 2) := g_197p57p166_2
                          have g_197p57p166_3 : (0 : Int32) < v0_9 → (0 : Int32) < (u_197p57p166.1 1) := g_197p57p166_3
                          have g_197p57p166_4 : ((u_197p57p166.1 1) = 0) ∨ (((u_197p57p166.1 0) = 259)) := g_197p57p166_4
                          obtain d197p57p166_1_0 := g_197p57p166_4.resolve_left (i_nef g_197p57p166_1 (iR_c (n := 0) (a := 0) (b := 0) (by decide +kernel) (by decide +kernel)) (by decide +kernel))
                          exact k_rv B hP hD hS dX2_step_200 ((fun k9 => match k9 with | 0 => y_165p57 | 1 => j21_F0_4 | 2 => (u_197p57p166.1 0) | 3 => v0_7 | 4 => (u_197p57p166.1 1) | 5 => (u_197p57p166.1 2) | _ => 0), (fun _ => 0), (fun _ => (fun _ => 0)), (fun _ => (fun _ => 0)), (fun _ => 0)) [2, 0, 1] rfl rfl (Nat.le_of_ble_eq_true rfl) (Nat.le_of_ble_eq_true rfl) ⟨(show iR y_165p57 0 1600 from (iR_w f_165p57_6 (by decide +kernel))), (show iR j21_F0_4 0 1600 from (iR_w f_32_1 (by decide +kernel))), (show iR (u_197p57p166.1 0) 0 324 from (iR_w g_197p57p166_0 (by decide +kernel))), (show iR (u_197p57p166.1 1) 0 6 from (iR_w g_197p57p166_1 (by decide +kernel))), (show XTS f0_0 g0_1 v0_3.toNatClampNeg v0_4 v0_6 v0_7 v0_9 v0_10 y_165p57 j21_F0_4 (u_197p57p166.1 0) v0_7 (u_197p57p166.1 1) (u_197p57p166.1 2) from (Or.inr ⟨c_4, (rn_e (Or.inr (cB_n c_43 c_57))).symm.trans p21_0, (f0_0 j21_F0_4.toNatClampNeg), v0_9, v0_10, Or.inr (Or.inr (Or.inr ⟨(i_ltN c_89p57 f_32_1 f_32_2 (by decide +kernel)), (bI_f g_111p57_1 c_114p57), (bI_f g_133p57_1 c_136p57), ey_165p57, rfl, rfl, c_4, rfl⟩)), Or.inl ⟨(bI_t g_17_1 c_170p57p166), c_178p57p166, (bI_t g_185p57p166_1 c_188p57p166), g_197p57p166_2⟩⟩)), (show (0 : Int32) < v0_9 → (0 : Int32) < (u_197p57p166.1 1) from (fun h => g_197p57p166_3 ((fun h => h) h))), (show ((u_197p57p166.1 1) = 0) ∨ (((u_197p57p166.1 0) = 259)) from (Or.inr d197p57p166_1_0))⟩
                  · have c_136p57 : ¬ r_133p57 = 0 := c_136p57
                    have f_139p57_5 : iR r_133p57 1 1 := iR_neL c_136p57 g_133p57_0 (iR_c (n := 0) (a := 0) (b := 0) (by decide +kernel) (by decide +kernel)) (by decide +kernel)
                    refine lv_aload_n hx hb dX2_step_139 rfl (lv_at hl 0 rfl) ?_
                    refine k_cv (wc := [(a0, .inr (2, [.ref a0_0, .ref a0_1, .ref a0_2, .int v0_3, .int j21_F0_4, .int j21_F0_4, .int v0_6, .int v0_7, .int 0, .int v0_9, .int v0_10])), (a0_0, .inl (cI, 1600, .inl f0_0))]) (wr := [(a0_1, .inl (cJ, 25, .inr (.inl g0_1)))]) (fun hPc hDc hFc => va_runV (As := []) (rest := []) ⟨hx, hb, hml, hown, hts⟩ (s_X2_readNumber_v1 l dC dI cI cJ cZ cM a0 a0_0 f0_0 a0_1 a0_2 v0_3 j21_F0_4 j21_F0_4 v0_6 v0_7 v0_9 v0_10 (show iR v0_9 0 0 from f_8_1) (iR_w f_32_2 (by decide +kernel)) (iR_w f_32_1 (by decide +kernel)) (iR_w f_32_1 (by decide +kernel)) hv0_6 (iR_w f_8_1 (by decide +kernel)) hf0_0 hpg0 rfl H.size) (cwV 0 hts gX2_step_X2_readNumber rfl rfl rfl (by decide +kernel) ⟨(Nat.le_of_ble_eq_true rfl), (Nat.le_of_ble_eq_true rfl)⟩) (k_pV hPc hDc hK hN hC hS hFc hP (q0 := 0) (ci := 2) rfl rfl) rfl rfl hl.1 rfl (lv_room (Nat.le_of_ble_eq_true rfl)) dX2_step_140 ⟨(Nat.le_of_ble_eq_true rfl), (Nat.le_of_ble_eq_true rfl)⟩) hP hD hS hA [0, 1] [2] rfl rfl rfl rfl (by decide) (fun _ => rfl) 0 0 rfl rfl (fun u_140p57 H locs hw hP hD hS => ?_)
                    obtain ⟨g_140p57_0, g_140p57_1, g_140p57_2, g_140p57_3, g_140p57_4, g_140p57_5⟩ := hw
                    have hP : va_P (dC, dI) vwCl [(a0_1, .inl (cJ, 25, .inr (.inl g0_1))), (a0, .inr (2, [.ref a0_0, .ref a0_1, .ref a0_2, .int v0_3, .int (u_140p57.1 0), .int j21_F0_4, .int (u_140p57.1 1), .int (u_140p57.1 2), .int 0, .int (u_140p57.1 3), .int (u_140p57.1 4)])), (a0_0, .inl (cI, 1600, .inl f0_0))] H := hP
                    have hD : va_D A [(a0_1, .inl (cJ, 25, .inr (.inl g0_1))), (a0, .inr (2, [.ref a0_0, .ref a0_1, .ref a0_2, .int v0_3, .int (u_140p57.1 0), .int j21_F0_4, .int (u_140p57.1 1), .int (u_140p57.1 2), .int 0, .int (u_140p57.1 3), .int (u_140p57.1 4)])), (a0_0, .inl (cI, 1600, .inl f0_0))] := hD
                    have g_140p57_3 : XN f0_0 v0_3.toNatClampNeg j21_F0_4 v0_7 v0_10 (u_140p57.1 0) (u_140p57.1 1) (u_140p57.1 2) (u_140p57.1 3) (u_140p57.1 4) := g_140p57_3
                    have g_140p57_4 : (0 : Int32) < v0_9 → (0 : Int32) < (u_140p57.1 3) := g_140p57_4
                    have g_140p57_5 : ((u_140p57.1 3) = 0) ∨ (((u_140p57.1 1) = 259)) := g_140p57_5
                    refine lv_goto (tgt := 169) hx hb dX2_step_143 (by decide) ?_
                    refine lv_iload_n hx hb dX2_step_169 rfl (lv_at hl 2 rfl) ?_
                    refine lv_if_eq (tgt := 200) hx hb dX2_step_170 (by decide) (fun c_170p57p143 => ?_) (fun c_170p57p143 => ?_)
                    · have c_170p57p143 : r_17 = 0 := c_170p57p143
                      have f_200p57p143_6 : iR r_17 0 0 := iR_eqL c_170p57p143 g_17_0 (iR_c (n := 0) (a := 0) (b := 0) (by decide +kernel) (by decide +kernel)) (by decide +kernel)
                      exact k_rv B hP hD hS dX2_step_200 ((fun k9 => match k9 with | 0 => (u_140p57.1 0) | 1 => j21_F0_4 | 2 => (u_140p57.1 1) | 3 => (u_140p57.1 2) | 4 => (u_140p57.1 3) | 5 => (u_140p57.1 4) | _ => 0), (fun _ => 0), (fun _ => (fun _ => 0)), (fun _ => (fun _ => 0)), (fun _ => 0)) [1, 2, 0] rfl rfl (Nat.le_of_ble_eq_true rfl) (Nat.le_of_ble_eq_true rfl) ⟨(show iR (u_140p57.1 0) 0 1600 from g_140p57_0), (show iR j21_F0_4 0 1600 from (iR_w f_32_1 (by decide +kernel))), (show iR (u_140p57.1 1) 0 324 from (iR_w g_140p57_1 (by decide +kernel))), (show iR (u_140p57.1 3) 0 6 from g_140p57_2), (show XTS f0_0 g0_1 v0_3.toNatClampNeg v0_4 v0_6 v0_7 v0_9 v0_10 (u_140p57.1 0) j21_F0_4 (u_140p57.1 1) (u_140p57.1 2) (u_140p57.1 3) (u_140p57.1 4) from (Or.inr ⟨c_4, (rn_e (Or.inr (cB_n c_43 c_57))).symm.trans p21_0, (u_140p57.1 1), (u_140p57.1 3), (u_140p57.1 4), Or.inr (Or.inr (Or.inl ⟨(i_ltN c_89p57 f_32_1 f_32_2 (by decide +kernel)), (bI_f g_111p57_1 c_114p57), (bI_t g_133p57_1 c_136p57), g_140p57_3⟩)), Or.inr ⟨fun q9 => absurd (q9.1.symm.trans (bI_f g_17_1 c_170p57p143)) (by decide), rfl, rfl, rfl⟩⟩)), (show (0 : Int32) < v0_9 → (0 : Int32) < (u_140p57.1 3) from (fun h => g_140p57_4 ((fun h => h) h))), (show ((u_140p57.1 3) = 0) ∨ (((u_140p57.1 1) = 259)) from g_140p57_5)⟩
                    · have c_170p57p143 : ¬ r_17 = 0 := c_170p57p143
                      have f_173p57p143_6 : iR r_17 1 1 := iR_neL c_170p57p143 g_17_0 (iR_c (n := 0) (a := 0) (b := 0) (by decide +kernel) (by decide +kernel)) (by decide +kernel)
                      refine lv_aload_n hx hb dX2_step_173 rfl (lv_at hl 0 rfl) ?_
                      refine k_get (D := (dC, dI)) (ci := 2) (v := .int j21_F0_4) (C := RX2) (T := TX2) (N := 11) hx hb hts hinX2 hown hK hP 1 rfl rfl 5 (by decide) w_4 rfl rfl dX2_step_174 ?_
                      refine lv_iload_n hx hb dX2_step_177 rfl (lv_at hl 1 rfl) ?_
                      refine lv_icmp_ne (tgt := 200) hx hb dX2_step_178 (by decide) (fun c_178p57p143 => ?_) (fun c_178p57p143 => ?_)
                      · have c_178p57p143 : ¬ j21_F0_4 = v0_4 := c_178p57p143
                        exact k_rv B hP hD hS dX2_step_200 ((fun k9 => match k9 with | 0 => (u_140p57.1 0) | 1 => j21_F0_4 | 2 => (u_140p57.1 1) | 3 => (u_140p57.1 2) | 4 => (u_140p57.1 3) | 5 => (u_140p57.1 4) | _ => 0), (fun _ => 0), (fun _ => (fun _ => 0)), (fun _ => (fun _ => 0)), (fun _ => 0)) [1, 2, 0] rfl rfl (Nat.le_of_ble_eq_true rfl) (Nat.le_of_ble_eq_true rfl) ⟨(show iR (u_140p57.1 0) 0 1600 from g_140p57_0), (show iR j21_F0_4 0 1600 from (iR_w f_32_1 (by decide +kernel))), (show iR (u_140p57.1 1) 0 324 from (iR_w g_140p57_1 (by decide +kernel))), (show iR (u_140p57.1 3) 0 6 from g_140p57_2), (show XTS f0_0 g0_1 v0_3.toNatClampNeg v0_4 v0_6 v0_7 v0_9 v0_10 (u_140p57.1 0) j21_F0_4 (u_140p57.1 1) (u_140p57.1 2) (u_140p57.1 3) (u_140p57.1 4) from (Or.inr ⟨c_4, (rn_e (Or.inr (cB_n c_43 c_57))).symm.trans p21_0, (u_140p57.1 1), (u_140p57.1 3), (u_140p57.1 4), Or.inr (Or.inr (Or.inl ⟨(i_ltN c_89p57 f_32_1 f_32_2 (by decide +kernel)), (bI_f g_111p57_1 c_114p57), (bI_t g_133p57_1 c_136p57), g_140p57_3⟩)), Or.inr ⟨fun q9 => c_178p57p143 q9.2.1, rfl, rfl, rfl⟩⟩)), (show (0 : Int32) < v0_9 → (0 : Int32) < (u_140p57.1 3) from (fun h => g_140p57_4 ((fun h => h) h))), (show ((u_140p57.1 3) = 0) ∨ (((u_140p57.1 1) = 259)) from g_140p57_5)⟩
                      · have c_178p57p143 : j21_F0_4 = v0_4 := c_178p57p143
                        have f_181p57p143_7 : iR v0_4 0 1599 := iR_eqR c_178p57p143 f_32_1 hv0_4 (by decide +kernel)
                        refine lv_aload_n hx hb dX2_step_181 rfl (lv_at hl 0 rfl) ?_
                        refine k_get (D := (dC, dI)) (ci := 2) (v := .int (u_140p57.1 1)) (C := RX2) (T := TX2) (N := 11) hx hb hts hinX2 hown hK hP 1 rfl rfl 6 (by decide) w_2 rfl rfl dX2_step_182 ?_
                        refine k_ci (wc := []) (wr := [(a0_1, .inl (cJ, 25, .inr (.inl g0_1))), (a0, .inr (2, [.ref a0_0, .ref a0_1, .ref a0_2, .int v0_3, .int (u_140p57.1 0), .int j21_F0_4, .int (u_140p57.1 1), .int (u_140p57.1 2), .int 0, .int (u_140p57.1 3), .int (u_140p57.1 4)])), (a0_0, .inl (cI, 1600, .inl f0_0))]) (fun hPc hDc hFc => va_runS (As := [.int (u_140p57.1 1)]) (rest := []) ⟨hx, hb, hml, hown, hts⟩ (s_X2_isWhole_v0 l dC dI cI cJ cZ cM (u_140p57.1 1) H.size) (va_cwS 1 hts gX2_step_X2_isWhole rfl rfl rfl (by decide +kernel) ⟨(Nat.le_of_ble_eq_true rfl), (Nat.le_of_ble_eq_true rfl)⟩) (k_pS hPc hDc hK hN hC hS hFc) rfl rfl hl.1 rfl (lv_room (Nat.le_of_ble_eq_true rfl)) dX2_step_185 ⟨(Nat.le_of_ble_eq_true rfl), (Nat.le_of_ble_eq_true rfl)⟩) hP hD hS hA [] [0, 1, 2] rfl rfl rfl rfl (by decide) (fun _ => rfl) 0 0 rfl rfl (fun r_185p57p143 u_185p57p143 H locs hw hP hD hS => ?_)
                        obtain ⟨g_185p57p143_0, g_185p57p143_1⟩ := hw
                        have hP : va_P (dC, dI) vwCl [(a0_1, .inl (cJ, 25, .inr (.inl g0_1))), (a0, .inr (2, [.ref a0_0, .ref a0_1, .ref a0_2, .int v0_3, .int (u_140p57.1 0), .int j21_F0_4, .int (u_140p57.1 1), .int (u_140p57.1 2), .int 0, .int (u_140p57.1 3), .int (u_140p57.1 4)])), (a0_0, .inl (cI, 1600, .inl f0_0))] H := hP
                        have hD : va_D A [(a0_1, .inl (cJ, 25, .inr (.inl g0_1))), (a0, .inr (2, [.ref a0_0, .ref a0_1, .ref a0_2, .int v0_3, .int (u_140p57.1 0), .int j21_F0_4, .int (u_140p57.1 1), .int (u_140p57.1 2), .int 0, .int (u_140p57.1 3), .int (u_140p57.1 4)])), (a0_0, .inl (cI, 1600, .inl f0_0))] := hD
                        have g_185p57p143_1 : r_185p57p143 = bI (wh (u_140p57.1 1)) := g_185p57p143_1
                        refine lv_if_eq (tgt := 200) hx hb dX2_step_188 (by decide) (fun c_188p57p143 => ?_) (fun c_188p57p143 => ?_)
                        · have c_188p57p143 : r_185p57p143 = 0 := c_188p57p143
                          have f_200p57p143_8 : iR r_185p57p143 0 0 := iR_eqL c_188p57p143 g_185p57p143_0 (iR_c (n := 0) (a := 0) (b := 0) (by decide +kernel) (by decide +kernel)) (by decide +kernel)
                          exact k_rv B hP hD hS dX2_step_200 ((fun k9 => match k9 with | 0 => (u_140p57.1 0) | 1 => j21_F0_4 | 2 => (u_140p57.1 1) | 3 => (u_140p57.1 2) | 4 => (u_140p57.1 3) | 5 => (u_140p57.1 4) | _ => 0), (fun _ => 0), (fun _ => (fun _ => 0)), (fun _ => (fun _ => 0)), (fun _ => 0)) [1, 2, 0] rfl rfl (Nat.le_of_ble_eq_true rfl) (Nat.le_of_ble_eq_true rfl) ⟨(show iR (u_140p57.1 0) 0 1600 from g_140p57_0), (show iR j21_F0_4 0 1600 from (iR_w f_32_1 (by decide +kernel))), (show iR (u_140p57.1 1) 0 324 from (iR_w g_140p57_1 (by decide +kernel))), (show iR (u_140p57.1 3) 0 6 from g_140p57_2), (show XTS f0_0 g0_1 v0_3.toNatClampNeg v0_4 v0_6 v0_7 v0_9 v0_10 (u_140p57.1 0) j21_F0_4 (u_140p57.1 1) (u_140p57.1 2) (u_140p57.1 3) (u_140p57.1 4) from (Or.inr ⟨c_4, (rn_e (Or.inr (cB_n c_43 c_57))).symm.trans p21_0, (u_140p57.1 1), (u_140p57.1 3), (u_140p57.1 4), Or.inr (Or.inr (Or.inl ⟨(i_ltN c_89p57 f_32_1 f_32_2 (by decide +kernel)), (bI_f g_111p57_1 c_114p57), (bI_t g_133p57_1 c_136p57), g_140p57_3⟩)), Or.inr ⟨fun q9 => absurd (q9.2.2.symm.trans (bI_f g_185p57p143_1 c_188p57p143)) (by decide), rfl, rfl, rfl⟩⟩)), (show (0 : Int32) < v0_9 → (0 : Int32) < (u_140p57.1 3) from (fun h => g_140p57_4 ((fun h => h) h))), (show ((u_140p57.1 3) = 0) ∨ (((u_140p57.1 1) = 259)) from g_140p57_5)⟩
                        · have c_188p57p143 : ¬ r_185p57p143 = 0 := c_188p57p143
                          have f_191p57p143_8 : iR r_185p57p143 1 1 := iR_neL c_188p57p143 g_185p57p143_0 (iR_c (n := 0) (a := 0) (b := 0) (by decide +kernel) (by decide +kernel)) (by decide +kernel)
                          refine lv_aload_n hx hb dX2_step_191 rfl (lv_at hl 0 rfl) ?_
                          refine lv_iconst (v := 1) hx hb dX2_step_192 (by decide +kernel) ?_
                          refine lv_aload_n hx hb dX2_step_193 rfl (lv_at hl 0 rfl) ?_
                          refine k_get (D := (dC, dI)) (ci := 2) (v := .int j21_F0_4) (C := RX2) (T := TX2) (N := 11) hx hb hts hinX2 hown hK hP 1 rfl rfl 5 (by decide) w_4 rfl rfl dX2_step_194 ?_
                          refine k_cv (wc := [(a0, .inr (2, [.ref a0_0, .ref a0_1, .ref a0_2, .int v0_3, .int (u_140p57.1 0), .int j21_F0_4, .int (u_140p57.1 1), .int (u_140p57.1 2), .int 0, .int (u_140p57.1 3), .int (u_140p57.1 4)]))]) (wr := [(a0_1, .inl (cJ, 25, .inr (.inl g0_1))), (a0_0, .inl (cI, 1600, .inl f0_0))]) (fun hPc hDc hFc => va_runV (As := [.int 1, .int j21_F0_4]) (rest := []) ⟨hx, hb, hml, hown, hts⟩ (s_X2_blame_v2 l dC dI cI cJ cZ cM a0 1 j21_F0_4 a0_0 a0_1 a0_2 v0_3 (u_140p57.1 0) j21_F0_4 (u_140p57.1 1) (u_140p57.1 2) (u_140p57.1 3) (u_140p57.1 4) (iR_c (n := 1) (a := 1) (b := 6) (by decide +kernel) (by decide +kernel)) (iR_w f_32_2 (by decide +kernel)) g_140p57_0 (iR_w f_32_1 (by decide +kernel)) (iR_w g_140p57_1 (by decide +kernel)) g_140p57_2 g_140p57_5 H.size) (cwV 2 hts gX2_step_X2_blame rfl rfl rfl (by decide +kernel) ⟨(Nat.le_of_ble_eq_true rfl), (Nat.le_of_ble_eq_true rfl)⟩) (k_pV hPc hDc hK hN hC hS hFc hP (q0 := 1) (ci := 2) rfl rfl) rfl rfl hl.1 rfl (lv_room (Nat.le_of_ble_eq_true rfl)) dX2_step_197 ⟨(Nat.le_of_ble_eq_true rfl), (Nat.le_of_ble_eq_true rfl)⟩) hP hD hS hA [1] [0, 2] rfl rfl rfl rfl (by decide) (fun _ => rfl) 0 0 rfl rfl (fun u_197p57p143 H locs hw hP hD hS => ?_)
                          obtain ⟨g_197p57p143_0, g_197p57p143_1, g_197p57p143_2, g_197p57p143_3, g_197p57p143_4⟩ := hw
                          have hP : va_P (dC, dI) vwCl [(a0_1, .inl (cJ, 25, .inr (.inl g0_1))), (a0_0, .inl (cI, 1600, .inl f0_0)), (a0, .inr (2, [.ref a0_0, .ref a0_1, .ref a0_2, .int v0_3, .int (u_140p57.1 0), .int j21_F0_4, .int (u_197p57p143.1 0), .int (u_140p57.1 2), .int 0, .int (u_197p57p143.1 1), .int (u_197p57p143.1 2)]))] H := hP
                          have hD : va_D A [(a0_1, .inl (cJ, 25, .inr (.inl g0_1))), (a0_0, .inl (cI, 1600, .inl f0_0)), (a0, .inr (2, [.ref a0_0, .ref a0_1, .ref a0_2, .int v0_3, .int (u_140p57.1 0), .int j21_F0_4, .int (u_197p57p143.1 0), .int (u_140p57.1 2), .int 0, .int (u_197p57p143.1 1), .int (u_197p57p143.1 2)]))] := hD
                          have g_197p57p143_2 : BL (u_140p57.1 1) (u_140p57.1 3) (u_140p57.1 4) 1 j21_F0_4 (u_197p57p143.1 0) (u_197p57p143.1 1) (u_197p57p143.1 2) := g_197p57p143_2
                          have g_197p57p143_3 : (0 : Int32) < (u_140p57.1 3) → (0 : Int32) < (u_197p57p143.1 1) := g_197p57p143_3
                          have g_197p57p143_4 : ((u_197p57p143.1 1) = 0) ∨ (((u_197p57p143.1 0) = 259)) := g_197p57p143_4
                          obtain d197p57p143_1_0 := g_197p57p143_4.resolve_left (i_nef g_197p57p143_1 (iR_c (n := 0) (a := 0) (b := 0) (by decide +kernel) (by decide +kernel)) (by decide +kernel))
                          exact k_rv B hP hD hS dX2_step_200 ((fun k9 => match k9 with | 0 => (u_140p57.1 0) | 1 => j21_F0_4 | 2 => (u_197p57p143.1 0) | 3 => (u_140p57.1 2) | 4 => (u_197p57p143.1 1) | 5 => (u_197p57p143.1 2) | _ => 0), (fun _ => 0), (fun _ => (fun _ => 0)), (fun _ => (fun _ => 0)), (fun _ => 0)) [2, 1, 0] rfl rfl (Nat.le_of_ble_eq_true rfl) (Nat.le_of_ble_eq_true rfl) ⟨(show iR (u_140p57.1 0) 0 1600 from g_140p57_0), (show iR j21_F0_4 0 1600 from (iR_w f_32_1 (by decide +kernel))), (show iR (u_197p57p143.1 0) 0 324 from (iR_w g_197p57p143_0 (by decide +kernel))), (show iR (u_197p57p143.1 1) 0 6 from (iR_w g_197p57p143_1 (by decide +kernel))), (show XTS f0_0 g0_1 v0_3.toNatClampNeg v0_4 v0_6 v0_7 v0_9 v0_10 (u_140p57.1 0) j21_F0_4 (u_197p57p143.1 0) (u_140p57.1 2) (u_197p57p143.1 1) (u_197p57p143.1 2) from (Or.inr ⟨c_4, (rn_e (Or.inr (cB_n c_43 c_57))).symm.trans p21_0, (u_140p57.1 1), (u_140p57.1 3), (u_140p57.1 4), Or.inr (Or.inr (Or.inl ⟨(i_ltN c_89p57 f_32_1 f_32_2 (by decide +kernel)), (bI_f g_111p57_1 c_114p57), (bI_t g_133p57_1 c_136p57), g_140p57_3⟩)), Or.inl ⟨(bI_t g_17_1 c_170p57p143), c_178p57p143, (bI_t g_185p57p143_1 c_188p57p143), g_197p57p143_2⟩⟩)), (show (0 : Int32) < v0_9 → (0 : Int32) < (u_197p57p143.1 1) from (fun h => g_197p57p143_3 ((fun h => g_140p57_4 ((fun h => h) h)) h))), (show ((u_197p57p143.1 1) = 0) ∨ (((u_197p57p143.1 0) = 259)) from (Or.inr d197p57p143_1_0))⟩
                · have c_114p57 : ¬ r_111p57 = 0 := c_114p57
                  have f_117p57_4 : iR r_111p57 1 1 := iR_neL c_114p57 g_111p57_0 (iR_c (n := 0) (a := 0) (b := 0) (by decide +kernel) (by decide +kernel)) (by decide +kernel)
                  refine lv_aload_n hx hb dX2_step_117 rfl (lv_at hl 0 rfl) ?_
                  refine k_cv (wc := [(a0, .inr (2, [.ref a0_0, .ref a0_1, .ref a0_2, .int v0_3, .int j21_F0_4, .int j21_F0_4, .int v0_6, .int v0_7, .int 0, .int v0_9, .int v0_10])), (a0_0, .inl (cI, 1600, .inl f0_0)), (a0_1, .inl (cJ, 25, .inr (.inl g0_1)))]) (wr := []) (fun hPc hDc hFc => va_runV (As := []) (rest := []) ⟨hx, hb, hml, hown, hts⟩ (s_X2_readWord_v1 l dC dI cI cJ cZ cM a0 a0_0 f0_0 a0_1 g0_1 a0_2 v0_3 j21_F0_4 j21_F0_4 v0_6 v0_7 v0_9 v0_10 (show iR v0_9 0 0 from f_8_1) (iR_w f_32_2 (by decide +kernel)) (iR_w f_32_1 (by decide +kernel)) (iR_w f_32_1 (by decide +kernel)) hv0_6 (iR_w f_8_1 (by decide +kernel)) hf0_0 hpg0 rfl H.size) (cwV 0 hts gX2_step_X2_readWord rfl rfl rfl (by decide +kernel) ⟨(Nat.le_of_ble_eq_true rfl), (Nat.le_of_ble_eq_true rfl)⟩) (k_pV hPc hDc hK hN hC hS hFc hP (q0 := 0) (ci := 2) rfl rfl) rfl rfl hl.1 rfl (lv_room (Nat.le_of_ble_eq_true rfl)) dX2_step_118 ⟨(Nat.le_of_ble_eq_true rfl), (Nat.le_of_ble_eq_true rfl)⟩) hP hD hS hA [0, 1, 2] [] rfl rfl rfl rfl (by decide) (fun _ => rfl) 0 0 rfl rfl (fun u_118p57 H locs hw hP hD hS => ?_)
                  obtain ⟨g_118p57_0, g_118p57_1, g_118p57_2, g_118p57_3, g_118p57_4, g_118p57_5⟩ := hw
                  have hP : va_P (dC, dI) vwCl [(a0, .inr (2, [.ref a0_0, .ref a0_1, .ref a0_2, .int v0_3, .int (u_118p57.1 0), .int j21_F0_4, .int (u_118p57.1 1), .int (u_118p57.1 2), .int 0, .int (u_118p57.1 3), .int (u_118p57.1 4)])), (a0_0, .inl (cI, 1600, .inl f0_0)), (a0_1, .inl (cJ, 25, .inr (.inl g0_1)))] H := hP
                  have hD : va_D A [(a0, .inr (2, [.ref a0_0, .ref a0_1, .ref a0_2, .int v0_3, .int (u_118p57.1 0), .int j21_F0_4, .int (u_118p57.1 1), .int (u_118p57.1 2), .int 0, .int (u_118p57.1 3), .int (u_118p57.1 4)])), (a0_0, .inl (cI, 1600, .inl f0_0)), (a0_1, .inl (cJ, 25, .inr (.inl g0_1)))] := hD
                  have g_118p57_3 : XW f0_0 g0_1 v0_3.toNatClampNeg j21_F0_4 v0_7 v0_10 (u_118p57.1 0) (u_118p57.1 1) (u_118p57.1 2) (u_118p57.1 3) (u_118p57.1 4) := g_118p57_3
                  have g_118p57_4 : (0 : Int32) < v0_9 → (0 : Int32) < (u_118p57.1 3) := g_118p57_4
                  have g_118p57_5 : ((u_118p57.1 3) = 0) ∨ (((u_118p57.1 1) = 259)) := g_118p57_5
                  refine lv_goto (tgt := 169) hx hb dX2_step_121 (by decide) ?_
                  refine lv_iload_n hx hb dX2_step_169 rfl (lv_at hl 2 rfl) ?_
                  refine lv_if_eq (tgt := 200) hx hb dX2_step_170 (by decide) (fun c_170p57p121 => ?_) (fun c_170p57p121 => ?_)
                  · have c_170p57p121 : r_17 = 0 := c_170p57p121
                    have f_200p57p121_5 : iR r_17 0 0 := iR_eqL c_170p57p121 g_17_0 (iR_c (n := 0) (a := 0) (b := 0) (by decide +kernel) (by decide +kernel)) (by decide +kernel)
                    exact k_rv B hP hD hS dX2_step_200 ((fun k9 => match k9 with | 0 => (u_118p57.1 0) | 1 => j21_F0_4 | 2 => (u_118p57.1 1) | 3 => (u_118p57.1 2) | 4 => (u_118p57.1 3) | 5 => (u_118p57.1 4) | _ => 0), (fun _ => 0), (fun _ => (fun _ => 0)), (fun _ => (fun _ => 0)), (fun _ => 0)) [0, 1, 2] rfl rfl (Nat.le_of_ble_eq_true rfl) (Nat.le_of_ble_eq_true rfl) ⟨(show iR (u_118p57.1 0) 0 1600 from g_118p57_0), (show iR j21_F0_4 0 1600 from (iR_w f_32_1 (by decide +kernel))), (show iR (u_118p57.1 1) 0 324 from (iR_w g_118p57_1 (by decide +kernel))), (show iR (u_118p57.1 3) 0 6 from g_118p57_2), (show XTS f0_0 g0_1 v0_3.toNatClampNeg v0_4 v0_6 v0_7 v0_9 v0_10 (u_118p57.1 0) j21_F0_4 (u_118p57.1 1) (u_118p57.1 2) (u_118p57.1 3) (u_118p57.1 4) from (Or.inr ⟨c_4, (rn_e (Or.inr (cB_n c_43 c_57))).symm.trans p21_0, (u_118p57.1 1), (u_118p57.1 3), (u_118p57.1 4), Or.inr (Or.inl ⟨(i_ltN c_89p57 f_32_1 f_32_2 (by decide +kernel)), (bI_t g_111p57_1 c_114p57), g_118p57_3⟩), Or.inr ⟨fun q9 => absurd (q9.1.symm.trans (bI_f g_17_1 c_170p57p121)) (by decide), rfl, rfl, rfl⟩⟩)), (show (0 : Int32) < v0_9 → (0 : Int32) < (u_118p57.1 3) from (fun h => g_118p57_4 ((fun h => h) h))), (show ((u_118p57.1 3) = 0) ∨ (((u_118p57.1 1) = 259)) from g_118p57_5)⟩
                  · have c_170p57p121 : ¬ r_17 = 0 := c_170p57p121
                    have f_173p57p121_5 : iR r_17 1 1 := iR_neL c_170p57p121 g_17_0 (iR_c (n := 0) (a := 0) (b := 0) (by decide +kernel) (by decide +kernel)) (by decide +kernel)
                    refine lv_aload_n hx hb dX2_step_173 rfl (lv_at hl 0 rfl) ?_
                    refine k_get (D := (dC, dI)) (ci := 2) (v := .int j21_F0_4) (C := RX2) (T := TX2) (N := 11) hx hb hts hinX2 hown hK hP 0 rfl rfl 5 (by decide) w_4 rfl rfl dX2_step_174 ?_
                    refine lv_iload_n hx hb dX2_step_177 rfl (lv_at hl 1 rfl) ?_
                    refine lv_icmp_ne (tgt := 200) hx hb dX2_step_178 (by decide) (fun c_178p57p121 => ?_) (fun c_178p57p121 => ?_)
                    · have c_178p57p121 : ¬ j21_F0_4 = v0_4 := c_178p57p121
                      exact k_rv B hP hD hS dX2_step_200 ((fun k9 => match k9 with | 0 => (u_118p57.1 0) | 1 => j21_F0_4 | 2 => (u_118p57.1 1) | 3 => (u_118p57.1 2) | 4 => (u_118p57.1 3) | 5 => (u_118p57.1 4) | _ => 0), (fun _ => 0), (fun _ => (fun _ => 0)), (fun _ => (fun _ => 0)), (fun _ => 0)) [0, 1, 2] rfl rfl (Nat.le_of_ble_eq_true rfl) (Nat.le_of_ble_eq_true rfl) ⟨(show iR (u_118p57.1 0) 0 1600 from g_118p57_0), (show iR j21_F0_4 0 1600 from (iR_w f_32_1 (by decide +kernel))), (show iR (u_118p57.1 1) 0 324 from (iR_w g_118p57_1 (by decide +kernel))), (show iR (u_118p57.1 3) 0 6 from g_118p57_2), (show XTS f0_0 g0_1 v0_3.toNatClampNeg v0_4 v0_6 v0_7 v0_9 v0_10 (u_118p57.1 0) j21_F0_4 (u_118p57.1 1) (u_118p57.1 2) (u_118p57.1 3) (u_118p57.1 4) from (Or.inr ⟨c_4, (rn_e (Or.inr (cB_n c_43 c_57))).symm.trans p21_0, (u_118p57.1 1), (u_118p57.1 3), (u_118p57.1 4), Or.inr (Or.inl ⟨(i_ltN c_89p57 f_32_1 f_32_2 (by decide +kernel)), (bI_t g_111p57_1 c_114p57), g_118p57_3⟩), Or.inr ⟨fun q9 => c_178p57p121 q9.2.1, rfl, rfl, rfl⟩⟩)), (show (0 : Int32) < v0_9 → (0 : Int32) < (u_118p57.1 3) from (fun h => g_118p57_4 ((fun h => h) h))), (show ((u_118p57.1 3) = 0) ∨ (((u_118p57.1 1) = 259)) from g_118p57_5)⟩
                    · have c_178p57p121 : j21_F0_4 = v0_4 := c_178p57p121
                      have f_181p57p121_6 : iR v0_4 0 1599 := iR_eqR c_178p57p121 f_32_1 hv0_4 (by decide +kernel)
                      refine lv_aload_n hx hb dX2_step_181 rfl (lv_at hl 0 rfl) ?_
                      refine k_get (D := (dC, dI)) (ci := 2) (v := .int (u_118p57.1 1)) (C := RX2) (T := TX2) (N := 11) hx hb hts hinX2 hown hK hP 0 rfl rfl 6 (by decide) w_2 rfl rfl dX2_step_182 ?_
                      refine k_ci (wc := []) (wr := [(a0, .inr (2, [.ref a0_0, .ref a0_1, .ref a0_2, .int v0_3, .int (u_118p57.1 0), .int j21_F0_4, .int (u_118p57.1 1), .int (u_118p57.1 2), .int 0, .int (u_118p57.1 3), .int (u_118p57.1 4)])), (a0_0, .inl (cI, 1600, .inl f0_0)), (a0_1, .inl (cJ, 25, .inr (.inl g0_1)))]) (fun hPc hDc hFc => va_runS (As := [.int (u_118p57.1 1)]) (rest := []) ⟨hx, hb, hml, hown, hts⟩ (s_X2_isWhole_v0 l dC dI cI cJ cZ cM (u_118p57.1 1) H.size) (va_cwS 1 hts gX2_step_X2_isWhole rfl rfl rfl (by decide +kernel) ⟨(Nat.le_of_ble_eq_true rfl), (Nat.le_of_ble_eq_true rfl)⟩) (k_pS hPc hDc hK hN hC hS hFc) rfl rfl hl.1 rfl (lv_room (Nat.le_of_ble_eq_true rfl)) dX2_step_185 ⟨(Nat.le_of_ble_eq_true rfl), (Nat.le_of_ble_eq_true rfl)⟩) hP hD hS hA [] [0, 1, 2] rfl rfl rfl rfl (by decide) (fun _ => rfl) 0 0 rfl rfl (fun r_185p57p121 u_185p57p121 H locs hw hP hD hS => ?_)
                      obtain ⟨g_185p57p121_0, g_185p57p121_1⟩ := hw
                      have hP : va_P (dC, dI) vwCl [(a0, .inr (2, [.ref a0_0, .ref a0_1, .ref a0_2, .int v0_3, .int (u_118p57.1 0), .int j21_F0_4, .int (u_118p57.1 1), .int (u_118p57.1 2), .int 0, .int (u_118p57.1 3), .int (u_118p57.1 4)])), (a0_0, .inl (cI, 1600, .inl f0_0)), (a0_1, .inl (cJ, 25, .inr (.inl g0_1)))] H := hP
                      have hD : va_D A [(a0, .inr (2, [.ref a0_0, .ref a0_1, .ref a0_2, .int v0_3, .int (u_118p57.1 0), .int j21_F0_4, .int (u_118p57.1 1), .int (u_118p57.1 2), .int 0, .int (u_118p57.1 3), .int (u_118p57.1 4)])), (a0_0, .inl (cI, 1600, .inl f0_0)), (a0_1, .inl (cJ, 25, .inr (.inl g0_1)))] := hD
                      have g_185p57p121_1 : r_185p57p121 = bI (wh (u_118p57.1 1)) := g_185p57p121_1
                      refine lv_if_eq (tgt := 200) hx hb dX2_step_188 (by decide) (fun c_188p57p121 => ?_) (fun c_188p57p121 => ?_)
                      · have c_188p57p121 : r_185p57p121 = 0 := c_188p57p121
                        have f_200p57p121_7 : iR r_185p57p121 0 0 := iR_eqL c_188p57p121 g_185p57p121_0 (iR_c (n := 0) (a := 0) (b := 0) (by decide +kernel) (by decide +kernel)) (by decide +kernel)
                        exact k_rv B hP hD hS dX2_step_200 ((fun k9 => match k9 with | 0 => (u_118p57.1 0) | 1 => j21_F0_4 | 2 => (u_118p57.1 1) | 3 => (u_118p57.1 2) | 4 => (u_118p57.1 3) | 5 => (u_118p57.1 4) | _ => 0), (fun _ => 0), (fun _ => (fun _ => 0)), (fun _ => (fun _ => 0)), (fun _ => 0)) [0, 1, 2] rfl rfl (Nat.le_of_ble_eq_true rfl) (Nat.le_of_ble_eq_true rfl) ⟨(show iR (u_118p57.1 0) 0 1600 from g_118p57_0), (show iR j21_F0_4 0 1600 from (iR_w f_32_1 (by decide +kernel))), (show iR (u_118p57.1 1) 0 324 from (iR_w g_118p57_1 (by decide +kernel))), (show iR (u_118p57.1 3) 0 6 from g_118p57_2), (show XTS f0_0 g0_1 v0_3.toNatClampNeg v0_4 v0_6 v0_7 v0_9 v0_10 (u_118p57.1 0) j21_F0_4 (u_118p57.1 1) (u_118p57.1 2) (u_118p57.1 3) (u_118p57.1 4) from (Or.inr ⟨c_4, (rn_e (Or.inr (cB_n c_43 c_57))).symm.trans p21_0, (u_118p57.1 1), (u_118p57.1 3), (u_118p57.1 4), Or.inr (Or.inl ⟨(i_ltN c_89p57 f_32_1 f_32_2 (by decide +kernel)), (bI_t g_111p57_1 c_114p57), g_118p57_3⟩), Or.inr ⟨fun q9 => absurd (q9.2.2.symm.trans (bI_f g_185p57p121_1 c_188p57p121)) (by decide), rfl, rfl, rfl⟩⟩)), (show (0 : Int32) < v0_9 → (0 : Int32) < (u_118p57.1 3) from (fun h => g_118p57_4 ((fun h => h) h))), (show ((u_118p57.1 3) = 0) ∨ (((u_118p57.1 1) = 259)) from g_118p57_5)⟩
                      · have c_188p57p121 : ¬ r_185p57p121 = 0 := c_188p57p121
                        have f_191p57p121_7 : iR r_185p57p121 1 1 := iR_neL c_188p57p121 g_185p57p121_0 (iR_c (n := 0) (a := 0) (b := 0) (by decide +kernel) (by decide +kernel)) (by decide +kernel)
                        refine lv_aload_n hx hb dX2_step_191 rfl (lv_at hl 0 rfl) ?_
                        refine lv_iconst (v := 1) hx hb dX2_step_192 (by decide +kernel) ?_
                        refine lv_aload_n hx hb dX2_step_193 rfl (lv_at hl 0 rfl) ?_
                        refine k_get (D := (dC, dI)) (ci := 2) (v := .int j21_F0_4) (C := RX2) (T := TX2) (N := 11) hx hb hts hinX2 hown hK hP 0 rfl rfl 5 (by decide) w_4 rfl rfl dX2_step_194 ?_
                        refine k_cv (wc := [(a0, .inr (2, [.ref a0_0, .ref a0_1, .ref a0_2, .int v0_3, .int (u_118p57.1 0), .int j21_F0_4, .int (u_118p57.1 1), .int (u_118p57.1 2), .int 0, .int (u_118p57.1 3), .int (u_118p57.1 4)]))]) (wr := [(a0_0, .inl (cI, 1600, .inl f0_0)), (a0_1, .inl (cJ, 25, .inr (.inl g0_1)))]) (fun hPc hDc hFc => va_runV (As := [.int 1, .int j21_F0_4]) (rest := []) ⟨hx, hb, hml, hown, hts⟩ (s_X2_blame_v2 l dC dI cI cJ cZ cM a0 1 j21_F0_4 a0_0 a0_1 a0_2 v0_3 (u_118p57.1 0) j21_F0_4 (u_118p57.1 1) (u_118p57.1 2) (u_118p57.1 3) (u_118p57.1 4) (iR_c (n := 1) (a := 1) (b := 6) (by decide +kernel) (by decide +kernel)) (iR_w f_32_2 (by decide +kernel)) g_118p57_0 (iR_w f_32_1 (by decide +kernel)) (iR_w g_118p57_1 (by decide +kernel)) g_118p57_2 g_118p57_5 H.size) (cwV 2 hts gX2_step_X2_blame rfl rfl rfl (by decide +kernel) ⟨(Nat.le_of_ble_eq_true rfl), (Nat.le_of_ble_eq_true rfl)⟩) (k_pV hPc hDc hK hN hC hS hFc hP (q0 := 0) (ci := 2) rfl rfl) rfl rfl hl.1 rfl (lv_room (Nat.le_of_ble_eq_true rfl)) dX2_step_197 ⟨(Nat.le_of_ble_eq_true rfl), (Nat.le_of_ble_eq_true rfl)⟩) hP hD hS hA [0] [1, 2] rfl rfl rfl rfl (by decide) (fun _ => rfl) 0 0 rfl rfl (fun u_197p57p121 H locs hw hP hD hS => ?_)
                        obtain ⟨g_197p57p121_0, g_197p57p121_1, g_197p57p121_2, g_197p57p121_3, g_197p57p121_4⟩ := hw
                        have hP : va_P (dC, dI) vwCl [(a0_0, .inl (cI, 1600, .inl f0_0)), (a0_1, .inl (cJ, 25, .inr (.inl g0_1))), (a0, .inr (2, [.ref a0_0, .ref a0_1, .ref a0_2, .int v0_3, .int (u_118p57.1 0), .int j21_F0_4, .int (u_197p57p121.1 0), .int (u_118p57.1 2), .int 0, .int (u_197p57p121.1 1), .int (u_197p57p121.1 2)]))] H := hP
                        have hD : va_D A [(a0_0, .inl (cI, 1600, .inl f0_0)), (a0_1, .inl (cJ, 25, .inr (.inl g0_1))), (a0, .inr (2, [.ref a0_0, .ref a0_1, .ref a0_2, .int v0_3, .int (u_118p57.1 0), .int j21_F0_4, .int (u_197p57p121.1 0), .int (u_118p57.1 2), .int 0, .int (u_197p57p121.1 1), .int (u_197p57p121.1 2)]))] := hD
                        have g_197p57p121_2 : BL (u_118p57.1 1) (u_118p57.1 3) (u_118p57.1 4) 1 j21_F0_4 (u_197p57p121.1 0) (u_197p57p121.1 1) (u_197p57p121.1 2) := g_197p57p121_2
                        have g_197p57p121_3 : (0 : Int32) < (u_118p57.1 3) → (0 : Int32) < (u_197p57p121.1 1) := g_197p57p121_3
                        have g_197p57p121_4 : ((u_197p57p121.1 1) = 0) ∨ (((u_197p57p121.1 0) = 259)) := g_197p57p121_4
                        obtain d197p57p121_1_0 := g_197p57p121_4.resolve_left (i_nef g_197p57p121_1 (iR_c (n := 0) (a := 0) (b := 0) (by decide +kernel) (by decide +kernel)) (by decide +kernel))
                        exact k_rv B hP hD hS dX2_step_200 ((fun k9 => match k9 with | 0 => (u_118p57.1 0) | 1 => j21_F0_4 | 2 => (u_197p57p121.1 0) | 3 => (u_118p57.1 2) | 4 => (u_197p57p121.1 1) | 5 => (u_197p57p121.1 2) | _ => 0), (fun _ => 0), (fun _ => (fun _ => 0)), (fun _ => (fun _ => 0)), (fun _ => 0)) [2, 0, 1] rfl rfl (Nat.le_of_ble_eq_true rfl) (Nat.le_of_ble_eq_true rfl) ⟨(show iR (u_118p57.1 0) 0 1600 from g_118p57_0), (show iR j21_F0_4 0 1600 from (iR_w f_32_1 (by decide +kernel))), (show iR (u_197p57p121.1 0) 0 324 from (iR_w g_197p57p121_0 (by decide +kernel))), (show iR (u_197p57p121.1 1) 0 6 from (iR_w g_197p57p121_1 (by decide +kernel))), (show XTS f0_0 g0_1 v0_3.toNatClampNeg v0_4 v0_6 v0_7 v0_9 v0_10 (u_118p57.1 0) j21_F0_4 (u_197p57p121.1 0) (u_118p57.1 2) (u_197p57p121.1 1) (u_197p57p121.1 2) from (Or.inr ⟨c_4, (rn_e (Or.inr (cB_n c_43 c_57))).symm.trans p21_0, (u_118p57.1 1), (u_118p57.1 3), (u_118p57.1 4), Or.inr (Or.inl ⟨(i_ltN c_89p57 f_32_1 f_32_2 (by decide +kernel)), (bI_t g_111p57_1 c_114p57), g_118p57_3⟩), Or.inl ⟨(bI_t g_17_1 c_170p57p121), c_178p57p121, (bI_t g_185p57p121_1 c_188p57p121), g_197p57p121_2⟩⟩)), (show (0 : Int32) < v0_9 → (0 : Int32) < (u_197p57p121.1 1) from (fun h => g_197p57p121_3 ((fun h => g_118p57_4 ((fun h => h) h)) h))), (show ((u_197p57p121.1 1) = 0) ∨ (((u_197p57p121.1 0) = 259)) from (Or.inr d197p57p121_1_0))⟩
              · exact (i_noall (by have r0 : j21_F0_4.toInt < v0_3.toInt := i_ti_lt rfl rfl c_29; have r1 : v0_3.toInt ≤ j21_F0_4.toInt := i_ti_le rfl rfl (i_nlt c_89p57); omega)).elim
            · have c_57 : (f0_0 j21_F0_4.toNatClampNeg) = 10 := c_57
              have f_60_4 : iR (f0_0 j21_F0_4.toNatClampNeg) 10 10 := iR_eqL c_57 f_40_3 (iR_c (n := 10) (a := 10) (b := 10) (by decide +kernel) (by decide +kernel)) (by decide +kernel)
              refine lv_aload_n hx hb dX2_step_60 rfl (lv_at hl 0 rfl) ?_
              refine lv_dup hx hb dX2_step_61 rfl ?_
              refine k_get (D := (dC, dI)) (ci := 2) (v := .int j21_F0_4) (C := RX2) (T := TX2) (N := 11) hx hb hts hinX2 hown hK hP 0 rfl rfl 4 (by decide) w_1 rfl rfl dX2_step_62 ?_
              refine lv_iconst (v := 1) hx hb dX2_step_65 (by decide +kernel) ?_
              refine lv_iadd hx hb dX2_step_66 ?_
              refine lv_topi (fun y_66p57 ey_66p57 => ?_)
              have f_66p57_5 : iR y_66p57 1 1600 := iR_add ey_66p57 f_32_1 (iR_c (n := 1) (a := 1) (b := 1) (by decide +kernel) (by decide +kernel)) (by decide +kernel)
              refine k_put (D := (dC, dI)) (ci := 2) (v := .int y_66p57) (C := RX2) (T := TX2) (N := 11) (ws' := [(a0, .inr (2, [.ref a0_0, .ref a0_1, .ref a0_2, .int v0_3, .int y_66p57, .int v0_5, .int v0_6, .int v0_7, .int 0, .int v0_9, .int v0_10])), (a0_0, .inl (cI, 1600, .inl f0_0)), (a0_1, .inl (cJ, 25, .inr (.inl g0_1)))]) hx hb hts hinX2 tyX2 tyX2_ok nmX2 hown hK hP hD hS 0 rfl rfl 4 (by decide) w_1 rfl rfl rfl rfl (Nat.le_of_ble_eq_true rfl) rfl dX2_step_67 (fun H locs hP hD hS => ?_)
              refine lv_goto (tgt := 21) hx hb dX2_step_70 (by decide) ?_
              exact ih_21 y_66p57 (iR_w f_66p57_5 (by decide +kernel)) (show rn cB f0_0 v0_3.toNatClampNeg y_66p57.toNatClampNeg = rn cB f0_0 v0_3.toNatClampNeg v0_4.toNatClampNeg from (by rw [i_succ ey_66p57 f_32_1 (by decide +kernel), rn_s (i_ltN c_29 f_32_1 f_32_2 (by decide +kernel)) (cB_y (Or.inr c_57))]; exact p21_0)) (m_up (B := 1600) hm_21 ey_66p57 f_32_1 (by decide +kernel)) H locs ls hP hD hS (lv_sub hl [0, 1, 2] rfl)
    refine lv_istore_n (lv' := [(2, .int r_17), (1, .int v0_4), (0, .ref a0)]) hx hb dX2_step_20 rfl hl (by decide) rfl (fun ls hl => ?_)
    exact J_21 _ v0_4 hv0_4 (show rn cB f0_0 v0_3.toNatClampNeg v0_4.toNatClampNeg = rn cB f0_0 v0_3.toNatClampNeg v0_4.toNatClampNeg from rfl) (Nat.lt_succ_self _) H locs ls hP hD hS (lv_sub hl [2, 1, 0] rfl)
  · have c_4 : ¬ v0_9 = 0 := c_4
    have f_7_1 : iR v0_9 1 6 := iR_neL c_4 hv0_9 (iR_c (n := 0) (a := 0) (b := 0) (by decide +kernel) (by decide +kernel)) (by decide +kernel)
    obtain d_4_1_0 := hpg0.resolve_left c_4
    have f_7_2 : iR v0_6 259 259 := iR_eqL d_4_1_0 hv0_6 (iR_c (n := 259) (a := 259) (b := 259) (by decide +kernel) (by decide +kernel)) (by decide +kernel)
    exact k_rv B hP hD hS dX2_step_7 ((fun k9 => match k9 with | 0 => v0_4 | 1 => v0_5 | 2 => v0_6 | 3 => v0_7 | 4 => v0_9 | 5 => v0_10 | _ => 0), (fun _ => 0), (fun _ => (fun _ => 0)), (fun _ => (fun _ => 0)), (fun _ => 0)) [0, 1, 2] rfl rfl (Nat.le_of_ble_eq_true rfl) (Nat.le_of_ble_eq_true rfl) ⟨(show iR v0_4 0 1600 from hv0_4), (show iR v0_5 0 1600 from hv0_5), (show iR v0_6 0 324 from (iR_w f_7_2 (by decide +kernel))), (show iR v0_9 0 6 from (iR_w f_7_1 (by decide +kernel))), (show XTS f0_0 g0_1 v0_3.toNatClampNeg v0_4 v0_6 v0_7 v0_9 v0_10 v0_4 v0_5 v0_6 v0_7 v0_9 v0_10 from (Or.inl ⟨c_4, rfl, rfl, rfl⟩)), (show (0 : Int32) < v0_9 → (0 : Int32) < v0_9 from (fun h => h)), (show (v0_9 = 0) ∨ ((v0_6 = 259)) from (Or.inr d_4_1_0))⟩
set_option maxHeartbeats 8000000 in
set_option maxRecDepth 100000 in
theorem s_X5_clear_v1 (l : Launch) (dC : Nat → ClassId) (dI : Nat → Nat → Nat) (cI cJ cZ cM : ClassId) (a0 : Nat) (b0_0 : Nat) (b0_1 : Nat) (b0_2 : Nat) (b0_3 : Nat) (b0_4 : Nat) (b0_5 : Nat) (b0_6 : Nat) (b0_7 : Nat) (b0_8 : Nat) (a0_9 : Nat) (f0_9 : Nat → Int32) (a0_10 : Nat) (f0_10 : Nat → Int32) (b0_11 : Nat) (v0_12 : Int32) (v0_13 : Int32) (v0_14 : Int32) (v0_15 : Int32) (v0_16 : Int32) (v0_17 : Int32) (v0_18 : Int32) (v0_19 : Int32) (hv0_12 : iR v0_12 0 1600) (hv0_13 : iR v0_13 0 10) (hv0_14 : iR v0_14 0 12) (hv0_19 : iR v0_19 0 80) (hf0_9 : aR f0_9 0 1600) (hf0_10 : aR f0_10 0 1600) : k_Mv l yX5_clear wsX5_clear ({ frames := 2, cells := 0, slots := 0, locals := 63 }) (dC, dI) vwCl (tyy cI cJ cZ cM) [(a0, .inr (5, [.ref b0_0, .ref b0_1, .ref b0_2, .ref b0_3, .ref b0_4, .ref b0_5, .ref b0_6, .ref b0_7, .ref b0_8, .ref a0_9, .ref a0_10, .ref b0_11, .int v0_12, .int v0_13, .int v0_14, .int v0_15, .int v0_16, .int v0_17, .int v0_18, .int v0_19])), (a0_9, .inl (cI, 3, .inl f0_9)), (a0_10, .inl (cI, 3, .inl f0_10))] [.ref a0] 0 0 (fun (u9 : SU) => [(a0, .inr (5, [.ref b0_0, .ref b0_1, .ref b0_2, .ref b0_3, .ref b0_4, .ref b0_5, .ref b0_6, .ref b0_7, .ref b0_8, .ref a0_9, .ref a0_10, .ref b0_11, .int 0, .int 0, .int 0, .int 0, .int 0, .int 100, .int 0, .int 0])), (a0_9, .inl (cI, 3, .inl (u9.2.2.1 0))), (a0_10, .inl (cI, 3, .inl (u9.2.2.1 1)))]) (fun (u9 : SU) => (aR (u9.2.2.1 0) 0 1600) ∧ (aR (u9.2.2.1 1) 0 1600) ∧ (∀ j9, j9 < 3 → (u9.2.2.1 0) j9 = 0) ∧ (∀ j9, j9 < 3 → (u9.2.2.1 1) j9 = 0)) := by
  refine fun sz => k_enter (cc := cX5_clear) (maxL := 1) (ret := none) (Qc := fun A => va_Qv (fun (u9 : SU) => (aR (u9.2.2.1 0) 0 1600) ∧ (aR (u9.2.2.1 1) 0 1600) ∧ (∀ j9, j9 < 3 → (u9.2.2.1 0) j9 = 0) ∧ (∀ j9, j9 < 3 → (u9.2.2.1 1) j9 = 0)) (fun u => k_B (dC, dI) vwCl (tyy cI cJ cZ cM) A ((fun (u9 : SU) => [(a0, .inr (5, [.ref b0_0, .ref b0_1, .ref b0_2, .ref b0_3, .ref b0_4, .ref b0_5, .ref b0_6, .ref b0_7, .ref b0_8, .ref a0_9, .ref a0_10, .ref b0_11, .int 0, .int 0, .int 0, .int 0, .int 0, .int 100, .int 0, .int 0])), (a0_9, .inl (cI, 3, .inl (u9.2.2.1 0))), (a0_10, .inl (cI, 3, .inl (u9.2.2.1 1)))]) u)) A) sz (by decide +kernel) rfl (Nat.le_of_ble_eq_true rfl) (fun p e s m args below meth c A ls H locs B hP hD hS hl => ?_)
  obtain ⟨hx, hb, hml, hown, hts, hr, hlk, hnm, hK, hA, hN, hC⟩ := id B
  have hown : s.vm.findClass RX5 = some m.cls := hown
  have hl : lv_has ls 1 [(0, .ref a0)] := hl
  have w_0 : (Cond.fieldLink RX5 39 "WishSea$Shore" "codeFrom" "[I").before args s = true := hts _ (List.mem_of_getElem? (i := 1) rfl)
  have w_1 : (Cond.fieldLink RX5 42 "WishSea$Shore" "codeTo" "[I").before args s = true := hts _ (List.mem_of_getElem? (i := 2) rfl)
  have w_2 : (Cond.fieldLink RX5 58 "WishSea$Shore" "codeLength" "I").before args s = true := hts _ (List.mem_of_getElem? (i := 3) rfl)
  have w_3 : (Cond.fieldLink RX5 61 "WishSea$Shore" "things" "I").before args s = true := hts _ (List.mem_of_getElem? (i := 4) rfl)
  have w_4 : (Cond.fieldLink RX5 64 "WishSea$Shore" "wishes" "I").before args s = true := hts _ (List.mem_of_getElem? (i := 5) rfl)
  have w_5 : (Cond.fieldLink RX5 67 "WishSea$Shore" "brief" "I").before args s = true := hts _ (List.mem_of_getElem? (i := 6) rfl)
  have w_6 : (Cond.fieldLink RX5 70 "WishSea$Shore" "first" "I").before args s = true := hts _ (List.mem_of_getElem? (i := 7) rfl)
  have w_7 : (Cond.fieldLink RX5 48 "WishSea$Shore" "bears" "I").before args s = true := hts _ (List.mem_of_getElem? (i := 8) rfl)
  have w_8 : (Cond.fieldLink RX5 73 "WishSea$Shore" "calm" "I").before args s = true := hts _ (List.mem_of_getElem? (i := 9) rfl)
  have w_9 : (Cond.fieldLink RX5 76 "WishSea$Shore" "statements" "I").before args s = true := hts _ (List.mem_of_getElem? (i := 10) rfl)
  have hinX5 : ∀ w ∈ u_ws RX5 TX5 20, w ∈ wsX5_clear := fun _ h => List.mem_cons_of_mem _ (List.mem_append_right _ h)
  refine lv_aload_n hx hb dX5_clear_0 rfl (lv_at hl 0 rfl) ?_
  refine k_get (D := (dC, dI)) (ci := 5) (v := .ref a0_9) (C := RX5) (T := TX5) (N := 20) hx hb hts hinX5 hown hK hP 0 rfl rfl 9 (by decide) w_0 rfl rfl dX5_clear_1 ?_
  refine lv_iconst (v := 0) hx hb dX5_clear_4 (by decide +kernel) ?_
  refine k_cv (wc := [(a0_9, .inl (cI, 3, .inl f0_9))]) (wr := [(a0, .inr (5, [.ref b0_0, .ref b0_1, .ref b0_2, .ref b0_3, .ref b0_4, .ref b0_5, .ref b0_6, .ref b0_7, .ref b0_8, .ref a0_9, .ref a0_10, .ref b0_11, .int v0_12, .int v0_13, .int v0_14, .int v0_15, .int v0_16, .int v0_17, .int v0_18, .int v0_19])), (a0_10, .inl (cI, 3, .inl f0_10))]) (fun hPc hDc hFc => va_runS (As := [.ref a0_9, .int 0]) (rest := []) ⟨hx, hb, hml, hown, hts⟩ (s_J7_fill_53178_v0 l dC dI cI cJ cZ cM a0_9 f0_9 hf0_9 H.size) (va_cwS 2 hts gX5_clear_J7_fill_53178 rfl rfl rfl (by decide +kernel) ⟨(Nat.le_of_ble_eq_true rfl), (Nat.le_of_ble_eq_true rfl)⟩) (k_pS hPc hDc hK hN hC hS hFc) rfl rfl hl.1 rfl (lv_room (Nat.le_of_ble_eq_true rfl)) dX5_clear_5 ⟨(Nat.le_of_ble_eq_true rfl), (Nat.le_of_ble_eq_true rfl)⟩) hP hD hS hA [1] [0, 2] rfl rfl rfl rfl (by decide) (fun _ => rfl) 0 0 rfl rfl (fun u_5 H locs hw hP hD hS => ?_)
  obtain ⟨g_5_0, g_5_1⟩ := hw
  have hP : va_P (dC, dI) vwCl [(a0, .inr (5, [.ref b0_0, .ref b0_1, .ref b0_2, .ref b0_3, .ref b0_4, .ref b0_5, .ref b0_6, .ref b0_7, .ref b0_8, .ref a0_9, .ref a0_10, .ref b0_11, .int v0_12, .int v0_13, .int v0_14, .int v0_15, .int v0_16, .int v0_17, .int v0_18, .int v0_19])), (a0_10, .inl (cI, 3, .inl f0_10)), (a0_9, .inl (cI, 3, .inl (u_5.2.2.1 0)))] H := hP
  have hD : va_D A [(a0, .inr (5, [.ref b0_0, .ref b0_1, .ref b0_2, .ref b0_3, .ref b0_4, .ref b0_5, .ref b0_6, .ref b0_7, .ref b0_8, .ref a0_9, .ref a0_10, .ref b0_11, .int v0_12, .int v0_13, .int v0_14, .int v0_15, .int v0_16, .int v0_17, .int v0_18, .int v0_19])), (a0_10, .inl (cI, 3, .inl f0_10)), (a0_9, .inl (cI, 3, .inl (u_5.2.2.1 0)))] := hD
  have g_5_1 : ∀ j9, j9 < 3 → (u_5.2.2.1 0) j9 = (0 : Int32) := g_5_1
  refine lv_aload_n hx hb dX5_clear_8 rfl (lv_at hl 0 rfl) ?_
  refine k_get (D := (dC, dI)) (ci := 5) (v := .ref a0_10) (C := RX5) (T := TX5) (N := 20) hx hb hts hinX5 hown hK hP 0 rfl rfl 10 (by decide) w_1 rfl rfl dX5_clear_9 ?_
  refine lv_iconst (v := 0) hx hb dX5_clear_12 (by decide +kernel) ?_
  refine k_cv (wc := [(a0_10, .inl (cI, 3, .inl f0_10))]) (wr := [(a0, .inr (5, [.ref b0_0, .ref b0_1, .ref b0_2, .ref b0_3, .ref b0_4, .ref b0_5, .ref b0_6, .ref b0_7, .ref b0_8, .ref a0_9, .ref a0_10, .ref b0_11, .int v0_12, .int v0_13, .int v0_14, .int v0_15, .int v0_16, .int v0_17, .int v0_18, .int v0_19])), (a0_9, .inl (cI, 3, .inl (u_5.2.2.1 0)))]) (fun hPc hDc hFc => va_runS (As := [.ref a0_10, .int 0]) (rest := []) ⟨hx, hb, hml, hown, hts⟩ (s_J7_fill_53178_v0 l dC dI cI cJ cZ cM a0_10 f0_10 hf0_10 H.size) (va_cwS 2 hts gX5_clear_J7_fill_53178 rfl rfl rfl (by decide +kernel) ⟨(Nat.le_of_ble_eq_true rfl), (Nat.le_of_ble_eq_true rfl)⟩) (k_pS hPc hDc hK hN hC hS hFc) rfl rfl hl.1 rfl (lv_room (Nat.le_of_ble_eq_true rfl)) dX5_clear_13 ⟨(Nat.le_of_ble_eq_true rfl), (Nat.le_of_ble_eq_true rfl)⟩) hP hD hS hA [1] [0, 2] rfl rfl rfl rfl (by decide) (fun _ => rfl) 0 0 rfl rfl (fun u_13 H locs hw hP hD hS => ?_)
  obtain ⟨g_13_0, g_13_1⟩ := hw
  have hP : va_P (dC, dI) vwCl [(a0, .inr (5, [.ref b0_0, .ref b0_1, .ref b0_2, .ref b0_3, .ref b0_4, .ref b0_5, .ref b0_6, .ref b0_7, .ref b0_8, .ref a0_9, .ref a0_10, .ref b0_11, .int v0_12, .int v0_13, .int v0_14, .int v0_15, .int v0_16, .int v0_17, .int v0_18, .int v0_19])), (a0_9, .inl (cI, 3, .inl (u_5.2.2.1 0))), (a0_10, .inl (cI, 3, .inl (u_13.2.2.1 0)))] H := hP
  have hD : va_D A [(a0, .inr (5, [.ref b0_0, .ref b0_1, .ref b0_2, .ref b0_3, .ref b0_4, .ref b0_5, .ref b0_6, .ref b0_7, .ref b0_8, .ref a0_9, .ref a0_10, .ref b0_11, .int v0_12, .int v0_13, .int v0_14, .int v0_15, .int v0_16, .int v0_17, .int v0_18, .int v0_19])), (a0_9, .inl (cI, 3, .inl (u_5.2.2.1 0))), (a0_10, .inl (cI, 3, .inl (u_13.2.2.1 0)))] := hD
  have g_13_1 : ∀ j9, j9 < 3 → (u_13.2.2.1 0) j9 = (0 : Int32) := g_13_1
  refine lv_aload_n hx hb dX5_clear_16 rfl (lv_at hl 0 rfl) ?_
  refine lv_iconst (v := 0) hx hb dX5_clear_17 (by decide +kernel) ?_
  refine k_put (D := (dC, dI)) (ci := 5) (v := .int 0) (C := RX5) (T := TX5) (N := 20) (ws' := [(a0, .inr (5, [.ref b0_0, .ref b0_1, .ref b0_2, .ref b0_3, .ref b0_4, .ref b0_5, .ref b0_6, .ref b0_7, .ref b0_8, .ref a0_9, .ref a0_10, .ref b0_11, .int 0, .int v0_13, .int v0_14, .int v0_15, .int v0_16, .int v0_17, .int v0_18, .int v0_19])), (a0_9, .inl (cI, 3, .inl (u_5.2.2.1 0))), (a0_10, .inl (cI, 3, .inl (u_13.2.2.1 0)))]) hx hb hts hinX5 tyX5 tyX5_ok nmX5 hown hK hP hD hS 0 rfl rfl 12 (by decide) w_2 rfl rfl rfl rfl (Nat.le_of_ble_eq_true rfl) rfl dX5_clear_18 (fun H locs hP hD hS => ?_)
  refine lv_aload_n hx hb dX5_clear_21 rfl (lv_at hl 0 rfl) ?_
  refine lv_iconst (v := 0) hx hb dX5_clear_22 (by decide +kernel) ?_
  refine k_put (D := (dC, dI)) (ci := 5) (v := .int 0) (C := RX5) (T := TX5) (N := 20) (ws' := [(a0, .inr (5, [.ref b0_0, .ref b0_1, .ref b0_2, .ref b0_3, .ref b0_4, .ref b0_5, .ref b0_6, .ref b0_7, .ref b0_8, .ref a0_9, .ref a0_10, .ref b0_11, .int 0, .int 0, .int v0_14, .int v0_15, .int v0_16, .int v0_17, .int v0_18, .int v0_19])), (a0_9, .inl (cI, 3, .inl (u_5.2.2.1 0))), (a0_10, .inl (cI, 3, .inl (u_13.2.2.1 0)))]) hx hb hts hinX5 tyX5 tyX5_ok nmX5 hown hK hP hD hS 0 rfl rfl 13 (by decide) w_3 rfl rfl rfl rfl (Nat.le_of_ble_eq_true rfl) rfl dX5_clear_23 (fun H locs hP hD hS => ?_)
  refine lv_aload_n hx hb dX5_clear_26 rfl (lv_at hl 0 rfl) ?_
  refine lv_iconst (v := 0) hx hb dX5_clear_27 (by decide +kernel) ?_
  refine k_put (D := (dC, dI)) (ci := 5) (v := .int 0) (C := RX5) (T := TX5) (N := 20) (ws' := [(a0, .inr (5, [.ref b0_0, .ref b0_1, .ref b0_2, .ref b0_3, .ref b0_4, .ref b0_5, .ref b0_6, .ref b0_7, .ref b0_8, .ref a0_9, .ref a0_10, .ref b0_11, .int 0, .int 0, .int 0, .int v0_15, .int v0_16, .int v0_17, .int v0_18, .int v0_19])), (a0_9, .inl (cI, 3, .inl (u_5.2.2.1 0))), (a0_10, .inl (cI, 3, .inl (u_13.2.2.1 0)))]) hx hb hts hinX5 tyX5 tyX5_ok nmX5 hown hK hP hD hS 0 rfl rfl 14 (by decide) w_4 rfl rfl rfl rfl (Nat.le_of_ble_eq_true rfl) rfl dX5_clear_28 (fun H locs hP hD hS => ?_)
  refine lv_aload_n hx hb dX5_clear_31 rfl (lv_at hl 0 rfl) ?_
  refine lv_iconst (v := 0) hx hb dX5_clear_32 (by decide +kernel) ?_
  refine k_put (D := (dC, dI)) (ci := 5) (v := .int 0) (C := RX5) (T := TX5) (N := 20) (ws' := [(a0, .inr (5, [.ref b0_0, .ref b0_1, .ref b0_2, .ref b0_3, .ref b0_4, .ref b0_5, .ref b0_6, .ref b0_7, .ref b0_8, .ref a0_9, .ref a0_10, .ref b0_11, .int 0, .int 0, .int 0, .int 0, .int v0_16, .int v0_17, .int v0_18, .int v0_19])), (a0_9, .inl (cI, 3, .inl (u_5.2.2.1 0))), (a0_10, .inl (cI, 3, .inl (u_13.2.2.1 0)))]) hx hb hts hinX5 tyX5 tyX5_ok nmX5 hown hK hP hD hS 0 rfl rfl 15 (by decide) w_5 rfl rfl rfl rfl (Nat.le_of_ble_eq_true rfl) rfl dX5_clear_33 (fun H locs hP hD hS => ?_)
  refine lv_aload_n hx hb dX5_clear_36 rfl (lv_at hl 0 rfl) ?_
  refine lv_iconst (v := 0) hx hb dX5_clear_37 (by decide +kernel) ?_
  refine k_put (D := (dC, dI)) (ci := 5) (v := .int 0) (C := RX5) (T := TX5) (N := 20) (ws' := [(a0, .inr (5, [.ref b0_0, .ref b0_1, .ref b0_2, .ref b0_3, .ref b0_4, .ref b0_5, .ref b0_6, .ref b0_7, .ref b0_8, .ref a0_9, .ref a0_10, .ref b0_11, .int 0, .int 0, .int 0, .int 0, .int 0, .int v0_17, .int v0_18, .int v0_19])), (a0_9, .inl (cI, 3, .inl (u_5.2.2.1 0))), (a0_10, .inl (cI, 3, .inl (u_13.2.2.1 0)))]) hx hb hts hinX5 tyX5 tyX5_ok nmX5 hown hK hP hD hS 0 rfl rfl 16 (by decide) w_6 rfl rfl rfl rfl (Nat.le_of_ble_eq_true rfl) rfl dX5_clear_38 (fun H locs hP hD hS => ?_)
  refine lv_aload_n hx hb dX5_clear_41 rfl (lv_at hl 0 rfl) ?_
  refine lv_bipush (v := 100) hx hb dX5_clear_42 (by decide +kernel) ?_
  refine k_put (D := (dC, dI)) (ci := 5) (v := .int 100) (C := RX5) (T := TX5) (N := 20) (ws' := [(a0, .inr (5, [.ref b0_0, .ref b0_1, .ref b0_2, .ref b0_3, .ref b0_4, .ref b0_5, .ref b0_6, .ref b0_7, .ref b0_8, .ref a0_9, .ref a0_10, .ref b0_11, .int 0, .int 0, .int 0, .int 0, .int 0, .int 100, .int v0_18, .int v0_19])), (a0_9, .inl (cI, 3, .inl (u_5.2.2.1 0))), (a0_10, .inl (cI, 3, .inl (u_13.2.2.1 0)))]) hx hb hts hinX5 tyX5 tyX5_ok nmX5 hown hK hP hD hS 0 rfl rfl 17 (by decide) w_7 rfl rfl rfl rfl (Nat.le_of_ble_eq_true rfl) rfl dX5_clear_44 (fun H locs hP hD hS => ?_)
  refine lv_aload_n hx hb dX5_clear_47 rfl (lv_at hl 0 rfl) ?_
  refine lv_iconst (v := 0) hx hb dX5_clear_48 (by decide +kernel) ?_
  refine k_put (D := (dC, dI)) (ci := 5) (v := .int 0) (C := RX5) (T := TX5) (N := 20) (ws' := [(a0, .inr (5, [.ref b0_0, .ref b0_1, .ref b0_2, .ref b0_3, .ref b0_4, .ref b0_5, .ref b0_6, .ref b0_7, .ref b0_8, .ref a0_9, .ref a0_10, .ref b0_11, .int 0, .int 0, .int 0, .int 0, .int 0, .int 100, .int 0, .int v0_19])), (a0_9, .inl (cI, 3, .inl (u_5.2.2.1 0))), (a0_10, .inl (cI, 3, .inl (u_13.2.2.1 0)))]) hx hb hts hinX5 tyX5 tyX5_ok nmX5 hown hK hP hD hS 0 rfl rfl 18 (by decide) w_8 rfl rfl rfl rfl (Nat.le_of_ble_eq_true rfl) rfl dX5_clear_49 (fun H locs hP hD hS => ?_)
  refine lv_aload_n hx hb dX5_clear_52 rfl (lv_at hl 0 rfl) ?_
  refine lv_iconst (v := 0) hx hb dX5_clear_53 (by decide +kernel) ?_
  refine k_put (D := (dC, dI)) (ci := 5) (v := .int 0) (C := RX5) (T := TX5) (N := 20) (ws' := [(a0, .inr (5, [.ref b0_0, .ref b0_1, .ref b0_2, .ref b0_3, .ref b0_4, .ref b0_5, .ref b0_6, .ref b0_7, .ref b0_8, .ref a0_9, .ref a0_10, .ref b0_11, .int 0, .int 0, .int 0, .int 0, .int 0, .int 100, .int 0, .int 0])), (a0_9, .inl (cI, 3, .inl (u_5.2.2.1 0))), (a0_10, .inl (cI, 3, .inl (u_13.2.2.1 0)))]) hx hb hts hinX5 tyX5 tyX5_ok nmX5 hown hK hP hD hS 0 rfl rfl 19 (by decide) w_9 rfl rfl rfl rfl (Nat.le_of_ble_eq_true rfl) rfl dX5_clear_54 (fun H locs hP hD hS => ?_)
  exact k_rv B hP hD hS dX5_clear_57 ((fun _ => 0), (fun _ => 0), (fun k9 => match k9 with | 0 => (u_5.2.2.1 0) | 1 => (u_13.2.2.1 0) | _ => (fun _ => 0)), (fun _ => (fun _ => 0)), (fun _ => 0)) [0, 1, 2] rfl rfl (Nat.le_of_ble_eq_true rfl) (Nat.le_of_ble_eq_true rfl) ⟨(show aR (u_5.2.2.1 0) 0 1600 from g_5_0), (show aR (u_13.2.2.1 0) 0 1600 from g_13_0), (show ∀ j9, j9 < 3 → (u_5.2.2.1 0) j9 = 0 from g_5_1), (show ∀ j9, j9 < 3 → (u_13.2.2.1 0) j9 = 0 from g_13_1)⟩
set_option maxHeartbeats 8000000 in
set_option maxRecDepth 100000 in
theorem s_X2_begin_v0 (l : Launch) (dC : Nat → ClassId) (dI : Nat → Nat → Nat) (cI cJ cZ cM : ClassId) (a0 : Nat) (x1 : Int32) (a2 : Nat) (a0_0 : Nat) (f0_0 : Nat → Int32) (a0_1 : Nat) (g0_1 : Nat → Int64) (b0_2 : Nat) (v0_3 : Int32) (v0_4 : Int32) (v0_5 : Int32) (v0_6 : Int32) (v0_7 : Int32) (v0_9 : Int32) (v0_10 : Int32) (a2_0 : Nat) (a2_1 : Nat) (a2_2 : Nat) (a2_3 : Nat) (a2_4 : Nat) (a2_5 : Nat) (a2_6 : Nat) (a2_7 : Nat) (a2_8 : Nat) (a2_9 : Nat) (f2_9 : Nat → Int32) (a2_10 : Nat) (f2_10 : Nat → Int32) (a2_11 : Nat) (v2_12 : Int32) (v2_13 : Int32) (v2_14 : Int32) (v2_15 : Int32) (v2_16 : Int32) (v2_17 : Int32) (v2_18 : Int32) (v2_19 : Int32) (hx1 : iR x1 0 1600) (hv0_3 : iR v0_3 0 1600) (hv0_4 : iR v0_4 0 1600) (hv0_5 : iR v0_5 0 1600) (hv0_6 : iR v0_6 0 324) (hv0_9 : iR v0_9 0 6) (hv2_12 : iR v2_12 0 1600) (hv2_13 : iR v2_13 0 10) (hv2_14 : iR v2_14 0 12) (hv2_19 : iR v2_19 0 80) (hf0_0 : aR f0_0 0 255) (hf2_9 : aR f2_9 0 1600) (hf2_10 : aR f2_10 0 1600) : k_Mv l yX2_begin wsX2_begin ({ frames := 4, cells := 0, slots := 0, locals := 111 }) (dC, dI) vwCl (tyy cI cJ cZ cM) [(a0, .inr (2, [.ref a0_0, .ref a0_1, .ref b0_2, .int v0_3, .int v0_4, .int v0_5, .int v0_6, .int v0_7, .int 0, .int v0_9, .int v0_10])), (a2, .inr (5, [.ref a2_0, .ref a2_1, .ref a2_2, .ref a2_3, .ref a2_4, .ref a2_5, .ref a2_6, .ref a2_7, .ref a2_8, .ref a2_9, .ref a2_10, .ref a2_11, .int v2_12, .int v2_13, .int v2_14, .int v2_15, .int v2_16, .int v2_17, .int v2_18, .int v2_19])), (a0_0, .inl (cI, 1600, .inl f0_0)), (a0_1, .inl (cJ, 25, .inr (.inl g0_1))), (a2_9, .inl (cI, 3, .inl f2_9)), (a2_10, .inl (cI, 3, .inl f2_10))] [.ref a0, .int x1, .ref a2] 0 0 (fun (u9 : SU) => [(a0, .inr (2, [.ref a0_0, .ref a0_1, .ref a2, .int (u9.1 0), .int (u9.1 1), .int (u9.1 2), .int (u9.1 3), .int (u9.1 4), .int 0, .int (u9.1 5), .int (u9.1 6)])), (a2, .inr (5, [.ref a2_0, .ref a2_1, .ref a2_2, .ref a2_3, .ref a2_4, .ref a2_5, .ref a2_6, .ref a2_7, .ref a2_8, .ref a2_9, .ref a2_10, .ref a2_11, .int 0, .int 0, .int 0, .int 0, .int 0, .int 100, .int 0, .int 0])), (a0_0, .inl (cI, 1600, .inl f0_0)), (a0_1, .inl (cJ, 25, .inr (.inl g0_1))), (a2_9, .inl (cI, 3, .inl (u9.2.2.1 0))), (a2_10, .inl (cI, 3, .inl (u9.2.2.1 1)))]) (fun (u9 : SU) => (iR (u9.1 0) 0 1600) ∧ (iR (u9.1 1) 0 1600) ∧ (iR (u9.1 2) 0 1600) ∧ (iR (u9.1 3) 0 324) ∧ (iR (u9.1 5) 0 6) ∧ (aR (u9.2.2.1 0) 0 1600) ∧ (aR (u9.2.2.1 1) 0 1600) ∧ (RBEG f0_0 g0_1 x1.toNatClampNeg (u9.1 1) (u9.1 2) (u9.1 3) (u9.1 4) (u9.1 5)) ∧ ((u9.1 0) = x1) ∧ (∀ j9, j9 < 3 → (u9.2.2.1 0) j9 = 0) ∧ (∀ j9, j9 < 3 → (u9.2.2.1 1) j9 = 0) ∧ (((u9.1 5) = 0) ∨ (((u9.1 3) = 259)))) := by
  refine fun sz => k_enter (cc := cX2_begin) (maxL := 3) (ret := none) (Qc := fun A => va_Qv (fun (u9 : SU) => (iR (u9.1 0) 0 1600) ∧ (iR (u9.1 1) 0 1600) ∧ (iR (u9.1 2) 0 1600) ∧ (iR (u9.1 3) 0 324) ∧ (iR (u9.1 5) 0 6) ∧ (aR (u9.2.2.1 0) 0 1600) ∧ (aR (u9.2.2.1 1) 0 1600) ∧ (RBEG f0_0 g0_1 x1.toNatClampNeg (u9.1 1) (u9.1 2) (u9.1 3) (u9.1 4) (u9.1 5)) ∧ ((u9.1 0) = x1) ∧ (∀ j9, j9 < 3 → (u9.2.2.1 0) j9 = 0) ∧ (∀ j9, j9 < 3 → (u9.2.2.1 1) j9 = 0) ∧ (((u9.1 5) = 0) ∨ (((u9.1 3) = 259)))) (fun u => k_B (dC, dI) vwCl (tyy cI cJ cZ cM) A ((fun (u9 : SU) => [(a0, .inr (2, [.ref a0_0, .ref a0_1, .ref a2, .int (u9.1 0), .int (u9.1 1), .int (u9.1 2), .int (u9.1 3), .int (u9.1 4), .int 0, .int (u9.1 5), .int (u9.1 6)])), (a2, .inr (5, [.ref a2_0, .ref a2_1, .ref a2_2, .ref a2_3, .ref a2_4, .ref a2_5, .ref a2_6, .ref a2_7, .ref a2_8, .ref a2_9, .ref a2_10, .ref a2_11, .int 0, .int 0, .int 0, .int 0, .int 0, .int 100, .int 0, .int 0])), (a0_0, .inl (cI, 1600, .inl f0_0)), (a0_1, .inl (cJ, 25, .inr (.inl g0_1))), (a2_9, .inl (cI, 3, .inl (u9.2.2.1 0))), (a2_10, .inl (cI, 3, .inl (u9.2.2.1 1)))]) u)) A) sz (by decide +kernel) rfl (Nat.le_of_ble_eq_true rfl) (fun p e s m args below meth c A ls H locs B hP hD hS hl => ?_)
  obtain ⟨hx, hb, hml, hown, hts, hr, hlk, hnm, hK, hA, hN, hC⟩ := id B
  have hown : s.vm.findClass RX2 = some m.cls := hown
  have hl : lv_has ls 3 [(0, .ref a0), (1, .int x1), (2, .ref a2)] := hl
  have w_0 : (Cond.fieldLink RX2 26 "WishSea$Reader" "told" "LWishSea$Shore;").before args s = true := hts _ (List.mem_of_getElem? (i := 1) rfl)
  have w_1 : (Cond.fieldLink RX2 22 "WishSea$Reader" "text" "[I").before args s = true := hts _ (List.mem_of_getElem? (i := 2) rfl)
  have w_2 : (Cond.methodLink RX2 49 Lib.Math.min.name).before args s = true := hts _ (List.mem_of_getElem? (i := 3) rfl)
  have w_3 : (Cond.static Lib.Math.min.name).before args s = true := hts _ (List.mem_of_getElem? (i := 4) rfl)
  have w_4 : (Cond.initialized "java/lang/Math").before args s = true := hts _ (List.mem_of_getElem? (i := 5) rfl)
  have w_5 : (Cond.code Lib.Math.min.name Lib.Math.min.code 2 (some .int)).before args s = true := hts _ (List.mem_of_getElem? (i := 6) rfl)
  have w_6 : (Cond.fieldLink RX2 55 "WishSea$Reader" "length" "I").before args s = true := hts _ (List.mem_of_getElem? (i := 7) rfl)
  have w_7 : (Cond.fieldLink RX2 57 "WishSea$Reader" "position" "I").before args s = true := hts _ (List.mem_of_getElem? (i := 8) rfl)
  have w_8 : (Cond.fieldLink RX2 15 "WishSea$Reader" "token" "I").before args s = true := hts _ (List.mem_of_getElem? (i := 9) rfl)
  have w_9 : (Cond.fieldLink RX2 60 "WishSea$Reader" "opened" "I").before args s = true := hts _ (List.mem_of_getElem? (i := 10) rfl)
  have w_10 : (Cond.fieldLink RX2 63 "WishSea$Reader" "fault" "I").before args s = true := hts _ (List.mem_of_getElem? (i := 11) rfl)
  have w_11 : (Cond.fieldLink RX2 19 "WishSea$Reader" "place" "I").before args s = true := hts _ (List.mem_of_getElem? (i := 12) rfl)
  have hinX2 : ∀ w ∈ u_ws RX2 TX2 11, w ∈ wsX2_begin := fun _ h => List.mem_cons_of_mem _ (List.mem_append_left _ (List.mem_append_right _ h))
  refine lv_aload_n hx hb dX2_begin_0 rfl (lv_at hl 0 rfl) ?_
  refine lv_aload_n hx hb dX2_begin_1 rfl (lv_at hl 2 rfl) ?_
  refine k_put (D := (dC, dI)) (ci := 2) (v := .ref a2) (C := RX2) (T := TX2) (N := 11) (ws' := [(a0, .inr (2, [.ref a0_0, .ref a0_1, .ref a2, .int v0_3, .int v0_4, .int v0_5, .int v0_6, .int v0_7, .int 0, .int v0_9, .int v0_10])), (a2, .inr (5, [.ref a2_0, .ref a2_1, .ref a2_2, .ref a2_3, .ref a2_4, .ref a2_5, .ref a2_6, .ref a2_7, .ref a2_8, .ref a2_9, .ref a2_10, .ref a2_11, .int v2_12, .int v2_13, .int v2_14, .int v2_15, .int v2_16, .int v2_17, .int v2_18, .int v2_19])), (a0_0, .inl (cI, 1600, .inl f0_0)), (a0_1, .inl (cJ, 25, .inr (.inl g0_1))), (a2_9, .inl (cI, 3, .inl f2_9)), (a2_10, .inl (cI, 3, .inl f2_10))]) hx hb hts hinX2 tyX2 tyX2_ok nmX2 hown hK hP hD hS 0 rfl rfl 2 (by decide) w_0 rfl rfl rfl rfl (Nat.le_of_ble_eq_true rfl) rfl dX2_begin_2 (fun H locs hP hD hS => ?_)
  refine lv_aload_n hx hb dX2_begin_5 rfl (lv_at hl 0 rfl) ?_
  refine k_get (D := (dC, dI)) (ci := 2) (v := .ref a2) (C := RX2) (T := TX2) (N := 11) hx hb hts hinX2 hown hK hP 0 rfl rfl 2 (by decide) w_0 rfl rfl dX2_begin_6 ?_
  refine k_cv (wc := [(a2, .inr (5, [.ref a2_0, .ref a2_1, .ref a2_2, .ref a2_3, .ref a2_4, .ref a2_5, .ref a2_6, .ref a2_7, .ref a2_8, .ref a2_9, .ref a2_10, .ref a2_11, .int v2_12, .int v2_13, .int v2_14, .int v2_15, .int v2_16, .int v2_17, .int v2_18, .int v2_19])), (a2_9, .inl (cI, 3, .inl f2_9)), (a2_10, .inl (cI, 3, .inl f2_10))]) (wr := [(a0, .inr (2, [.ref a0_0, .ref a0_1, .ref a2, .int v0_3, .int v0_4, .int v0_5, .int v0_6, .int v0_7, .int 0, .int v0_9, .int v0_10])), (a0_0, .inl (cI, 1600, .inl f0_0)), (a0_1, .inl (cJ, 25, .inr (.inl g0_1)))]) (fun hPc hDc hFc => va_runV (As := []) (rest := []) ⟨hx, hb, hml, hown, hts⟩ (s_X5_clear_v1 l dC dI cI cJ cZ cM a2 a2_0 a2_1 a2_2 a2_3 a2_4 a2_5 a2_6 a2_7 a2_8 a2_9 f2_9 a2_10 f2_10 a2_11 v2_12 v2_13 v2_14 v2_15 v2_16 v2_17 v2_18 v2_19 hv2_12 hv2_13 hv2_14 hv2_19 hf2_9 hf2_10 H.size) (cwV 0 hts gX2_begin_X5_clear rfl rfl rfl (by decide +kernel) ⟨(Nat.le_of_ble_eq_true rfl), (Nat.le_of_ble_eq_true rfl)⟩) (k_pV hPc hDc hK hN hC hS hFc hP (q0 := 1) (ci := 5) rfl rfl) rfl rfl hl.1 rfl (lv_room (Nat.le_of_ble_eq_true rfl)) dX2_begin_9 ⟨(Nat.le_of_ble_eq_true rfl), (Nat.le_of_ble_eq_true rfl)⟩) hP hD hS hA [1, 4, 5] [0, 2, 3] rfl rfl rfl rfl (by decide) (fun _ => rfl) 0 0 rfl rfl (fun u_9 H locs hw hP hD hS => ?_)
  obtain ⟨g_9_0, g_9_1, g_9_2, g_9_3⟩ := hw
  have hP : va_P (dC, dI) vwCl [(a0, .inr (2, [.ref a0_0, .ref a0_1, .ref a2, .int v0_3, .int v0_4, .int v0_5, .int v0_6, .int v0_7, .int 0, .int v0_9, .int v0_10])), (a0_0, .inl (cI, 1600, .inl f0_0)), (a0_1, .inl (cJ, 25, .inr (.inl g0_1))), (a2, .inr (5, [.ref a2_0, .ref a2_1, .ref a2_2, .ref a2_3, .ref a2_4, .ref a2_5, .ref a2_6, .ref a2_7, .ref a2_8, .ref a2_9, .ref a2_10, .ref a2_11, .int 0, .int 0, .int 0, .int 0, .int 0, .int 100, .int 0, .int 0])), (a2_9, .inl (cI, 3, .inl (u_9.2.2.1 0))), (a2_10, .inl (cI, 3, .inl (u_9.2.2.1 1)))] H := hP
  have hD : va_D A [(a0, .inr (2, [.ref a0_0, .ref a0_1, .ref a2, .int v0_3, .int v0_4, .int v0_5, .int v0_6, .int v0_7, .int 0, .int v0_9, .int v0_10])), (a0_0, .inl (cI, 1600, .inl f0_0)), (a0_1, .inl (cJ, 25, .inr (.inl g0_1))), (a2, .inr (5, [.ref a2_0, .ref a2_1, .ref a2_2, .ref a2_3, .ref a2_4, .ref a2_5, .ref a2_6, .ref a2_7, .ref a2_8, .ref a2_9, .ref a2_10, .ref a2_11, .int 0, .int 0, .int 0, .int 0, .int 0, .int 100, .int 0, .int 0])), (a2_9, .inl (cI, 3, .inl (u_9.2.2.1 0))), (a2_10, .inl (cI, 3, .inl (u_9.2.2.1 1)))] := hD
  have g_9_2 : ∀ j9, j9 < 3 → (u_9.2.2.1 0) j9 = 0 := g_9_2
  have g_9_3 : ∀ j9, j9 < 3 → (u_9.2.2.1 1) j9 = 0 := g_9_3
  refine lv_aload_n hx hb dX2_begin_12 rfl (lv_at hl 0 rfl) ?_
  refine lv_iload_n hx hb dX2_begin_13 rfl (lv_at hl 1 rfl) ?_
  refine lv_aload_n hx hb dX2_begin_14 rfl (lv_at hl 0 rfl) ?_
  refine k_get (D := (dC, dI)) (ci := 2) (v := .ref a0_0) (C := RX2) (T := TX2) (N := 11) hx hb hts hinX2 hown hK hP 0 rfl rfl 0 (by decide) w_1 rfl rfl dX2_begin_15 ?_
  refine va_alen (v := 1600) hx hb hK hP 1 0 rfl rfl rfl dX2_begin_18 ?_
  refine va_mmin hx hb (hml.trans hl.1.symm) hown w_2 w_3 w_4 w_5 (Nat.le_of_ble_eq_true rfl) (Nat.le_of_ble_eq_true rfl) (Nat.le_of_ble_eq_true rfl) (Nat.le_of_ble_eq_true rfl) dX2_begin_19 ?_
  refine lv_topi (fun y_19 ey_19 => ?_)
  have f_19_1 : iR y_19 0 1600 := iR_min ey_19 hx1 (iR_c (n := 1600) (a := 1600) (b := 1600) (by decide +kernel) (by decide +kernel)) (by decide +kernel)
  refine k_put (D := (dC, dI)) (ci := 2) (v := .int y_19) (C := RX2) (T := TX2) (N := 11) (ws' := [(a0, .inr (2, [.ref a0_0, .ref a0_1, .ref a2, .int y_19, .int v0_4, .int v0_5, .int v0_6, .int v0_7, .int 0, .int v0_9, .int v0_10])), (a0_0, .inl (cI, 1600, .inl f0_0)), (a0_1, .inl (cJ, 25, .inr (.inl g0_1))), (a2, .inr (5, [.ref a2_0, .ref a2_1, .ref a2_2, .ref a2_3, .ref a2_4, .ref a2_5, .ref a2_6, .ref a2_7, .ref a2_8, .ref a2_9, .ref a2_10, .ref a2_11, .int 0, .int 0, .int 0, .int 0, .int 0, .int 100, .int 0, .int 0])), (a2_9, .inl (cI, 3, .inl (u_9.2.2.1 0))), (a2_10, .inl (cI, 3, .inl (u_9.2.2.1 1)))]) hx hb hts hinX2 tyX2 tyX2_ok nmX2 hown hK hP hD hS 0 rfl rfl 3 (by decide) w_6 rfl rfl rfl rfl (Nat.le_of_ble_eq_true rfl) rfl dX2_begin_22 (fun H locs hP hD hS => ?_)
  refine lv_aload_n hx hb dX2_begin_25 rfl (lv_at hl 0 rfl) ?_
  refine lv_iconst (v := 0) hx hb dX2_begin_26 (by decide +kernel) ?_
  refine k_put (D := (dC, dI)) (ci := 2) (v := .int 0) (C := RX2) (T := TX2) (N := 11) (ws' := [(a0, .inr (2, [.ref a0_0, .ref a0_1, .ref a2, .int y_19, .int 0, .int v0_5, .int v0_6, .int v0_7, .int 0, .int v0_9, .int v0_10])), (a0_0, .inl (cI, 1600, .inl f0_0)), (a0_1, .inl (cJ, 25, .inr (.inl g0_1))), (a2, .inr (5, [.ref a2_0, .ref a2_1, .ref a2_2, .ref a2_3, .ref a2_4, .ref a2_5, .ref a2_6, .ref a2_7, .ref a2_8, .ref a2_9, .ref a2_10, .ref a2_11, .int 0, .int 0, .int 0, .int 0, .int 0, .int 100, .int 0, .int 0])), (a2_9, .inl (cI, 3, .inl (u_9.2.2.1 0))), (a2_10, .inl (cI, 3, .inl (u_9.2.2.1 1)))]) hx hb hts hinX2 tyX2 tyX2_ok nmX2 hown hK hP hD hS 0 rfl rfl 4 (by decide) w_7 rfl rfl rfl rfl (Nat.le_of_ble_eq_true rfl) rfl dX2_begin_27 (fun H locs hP hD hS => ?_)
  refine lv_aload_n hx hb dX2_begin_30 rfl (lv_at hl 0 rfl) ?_
  refine lv_sipush (v := 256) hx hb dX2_begin_31 (by decide +kernel) ?_
  refine k_put (D := (dC, dI)) (ci := 2) (v := .int 256) (C := RX2) (T := TX2) (N := 11) (ws' := [(a0, .inr (2, [.ref a0_0, .ref a0_1, .ref a2, .int y_19, .int 0, .int v0_5, .int 256, .int v0_7, .int 0, .int v0_9, .int v0_10])), (a0_0, .inl (cI, 1600, .inl f0_0)), (a0_1, .inl (cJ, 25, .inr (.inl g0_1))), (a2, .inr (5, [.ref a2_0, .ref a2_1, .ref a2_2, .ref a2_3, .ref a2_4, .ref a2_5, .ref a2_6, .ref a2_7, .ref a2_8, .ref a2_9, .ref a2_10, .ref a2_11, .int 0, .int 0, .int 0, .int 0, .int 0, .int 100, .int 0, .int 0])), (a2_9, .inl (cI, 3, .inl (u_9.2.2.1 0))), (a2_10, .inl (cI, 3, .inl (u_9.2.2.1 1)))]) hx hb hts hinX2 tyX2 tyX2_ok nmX2 hown hK hP hD hS 0 rfl rfl 6 (by decide) w_8 rfl rfl rfl rfl (Nat.le_of_ble_eq_true rfl) rfl dX2_begin_34 (fun H locs hP hD hS => ?_)
  refine lv_aload_n hx hb dX2_begin_37 rfl (lv_at hl 0 rfl) ?_
  refine lv_iconst (v := 0) hx hb dX2_begin_38 (by decide +kernel) ?_
  refine k_put (D := (dC, dI)) (ci := 2) (v := .int 0) (C := RX2) (T := TX2) (N := 11) (ws' := [(a0, .inr (2, [.ref a0_0, .ref a0_1, .ref a2, .int y_19, .int 0, .int v0_5, .int 256, .int v0_7, .int 0, .int v0_9, .int v0_10])), (a0_0, .inl (cI, 1600, .inl f0_0)), (a0_1, .inl (cJ, 25, .inr (.inl g0_1))), (a2, .inr (5, [.ref a2_0, .ref a2_1, .ref a2_2, .ref a2_3, .ref a2_4, .ref a2_5, .ref a2_6, .ref a2_7, .ref a2_8, .ref a2_9, .ref a2_10, .ref a2_11, .int 0, .int 0, .int 0, .int 0, .int 0, .int 100, .int 0, .int 0])), (a2_9, .inl (cI, 3, .inl (u_9.2.2.1 0))), (a2_10, .inl (cI, 3, .inl (u_9.2.2.1 1)))]) hx hb hts hinX2 tyX2 tyX2_ok nmX2 hown hK hP hD hS 0 rfl rfl 8 (by decide) w_9 rfl rfl rfl rfl (Nat.le_of_ble_eq_true rfl) rfl dX2_begin_39 (fun H locs hP hD hS => ?_)
  refine lv_aload_n hx hb dX2_begin_42 rfl (lv_at hl 0 rfl) ?_
  refine lv_iconst (v := 0) hx hb dX2_begin_43 (by decide +kernel) ?_
  refine k_put (D := (dC, dI)) (ci := 2) (v := .int 0) (C := RX2) (T := TX2) (N := 11) (ws' := [(a0, .inr (2, [.ref a0_0, .ref a0_1, .ref a2, .int y_19, .int 0, .int v0_5, .int 256, .int v0_7, .int 0, .int 0, .int v0_10])), (a0_0, .inl (cI, 1600, .inl f0_0)), (a0_1, .inl (cJ, 25, .inr (.inl g0_1))), (a2, .inr (5, [.ref a2_0, .ref a2_1, .ref a2_2, .ref a2_3, .ref a2_4, .ref a2_5, .ref a2_6, .ref a2_7, .ref a2_8, .ref a2_9, .ref a2_10, .ref a2_11, .int 0, .int 0, .int 0, .int 0, .int 0, .int 100, .int 0, .int 0])), (a2_9, .inl (cI, 3, .inl (u_9.2.2.1 0))), (a2_10, .inl (cI, 3, .inl (u_9.2.2.1 1)))]) hx hb hts hinX2 tyX2 tyX2_ok nmX2 hown hK hP hD hS 0 rfl rfl 9 (by decide) w_10 rfl rfl rfl rfl (Nat.le_of_ble_eq_true rfl) rfl dX2_begin_44 (fun H locs hP hD hS => ?_)
  refine lv_aload_n hx hb dX2_begin_47 rfl (lv_at hl 0 rfl) ?_
  refine lv_iconst (v := (-1)) hx hb dX2_begin_48 (by decide +kernel) ?_
  refine k_put (D := (dC, dI)) (ci := 2) (v := .int (-1)) (C := RX2) (T := TX2) (N := 11) (ws' := [(a0, .inr (2, [.ref a0_0, .ref a0_1, .ref a2, .int y_19, .int 0, .int v0_5, .int 256, .int v0_7, .int 0, .int 0, .int (-1)])), (a0_0, .inl (cI, 1600, .inl f0_0)), (a0_1, .inl (cJ, 25, .inr (.inl g0_1))), (a2, .inr (5, [.ref a2_0, .ref a2_1, .ref a2_2, .ref a2_3, .ref a2_4, .ref a2_5, .ref a2_6, .ref a2_7, .ref a2_8, .ref a2_9, .ref a2_10, .ref a2_11, .int 0, .int 0, .int 0, .int 0, .int 0, .int 100, .int 0, .int 0])), (a2_9, .inl (cI, 3, .inl (u_9.2.2.1 0))), (a2_10, .inl (cI, 3, .inl (u_9.2.2.1 1)))]) hx hb hts hinX2 tyX2 tyX2_ok nmX2 hown hK hP hD hS 0 rfl rfl 10 (by decide) w_11 rfl rfl rfl rfl (Nat.le_of_ble_eq_true rfl) rfl dX2_begin_49 (fun H locs hP hD hS => ?_)
  refine lv_aload_n hx hb dX2_begin_52 rfl (lv_at hl 0 rfl) ?_
  refine k_cv (wc := [(a0, .inr (2, [.ref a0_0, .ref a0_1, .ref a2, .int y_19, .int 0, .int v0_5, .int 256, .int v0_7, .int 0, .int 0, .int (-1)])), (a0_0, .inl (cI, 1600, .inl f0_0)), (a0_1, .inl (cJ, 25, .inr (.inl g0_1)))]) (wr := [(a2, .inr (5, [.ref a2_0, .ref a2_1, .ref a2_2, .ref a2_3, .ref a2_4, .ref a2_5, .ref a2_6, .ref a2_7, .ref a2_8, .ref a2_9, .ref a2_10, .ref a2_11, .int 0, .int 0, .int 0, .int 0, .int 0, .int 100, .int 0, .int 0])), (a2_9, .inl (cI, 3, .inl (u_9.2.2.1 0))), (a2_10, .inl (cI, 3, .inl (u_9.2.2.1 1)))]) (fun hPc hDc hFc => va_runV (As := []) (rest := []) ⟨hx, hb, hml, hown, hts⟩ (s_X2_step_v0 l dC dI cI cJ cZ cM a0 a0_0 f0_0 a0_1 g0_1 a2 y_19 0 v0_5 256 v0_7 0 (-1) f_19_1 (iR_c (n := 0) (a := 0) (b := 1600) (by decide +kernel) (by decide +kernel)) hv0_5 (iR_c (n := 256) (a := 0) (b := 324) (by decide +kernel) (by decide +kernel)) (iR_c (n := 0) (a := 0) (b := 6) (by decide +kernel) (by decide +kernel)) hf0_0 (Or.inl rfl) H.size) (cwV 0 hts gX2_begin_X2_step rfl rfl rfl (by decide +kernel) ⟨(Nat.le_of_ble_eq_true rfl), (Nat.le_of_ble_eq_true rfl)⟩) (k_pV hPc hDc hK hN hC hS hFc hP (q0 := 0) (ci := 2) rfl rfl) rfl rfl hl.1 rfl (lv_room (Nat.le_of_ble_eq_true rfl)) dX2_begin_53 ⟨(Nat.le_of_ble_eq_true rfl), (Nat.le_of_ble_eq_true rfl)⟩) hP hD hS hA [0, 1, 2] [3, 4, 5] rfl rfl rfl rfl (by decide) (fun _ => rfl) 0 0 rfl rfl (fun u_53 H locs hw hP hD hS => ?_)
  obtain ⟨g_53_0, g_53_1, g_53_2, g_53_3, g_53_4, g_53_5, g_53_6⟩ := hw
  have hP : va_P (dC, dI) vwCl [(a2, .inr (5, [.ref a2_0, .ref a2_1, .ref a2_2, .ref a2_3, .ref a2_4, .ref a2_5, .ref a2_6, .ref a2_7, .ref a2_8, .ref a2_9, .ref a2_10, .ref a2_11, .int 0, .int 0, .int 0, .int 0, .int 0, .int 100, .int 0, .int 0])), (a2_9, .inl (cI, 3, .inl (u_9.2.2.1 0))), (a2_10, .inl (cI, 3, .inl (u_9.2.2.1 1))), (a0, .inr (2, [.ref a0_0, .ref a0_1, .ref a2, .int y_19, .int (u_53.1 0), .int (u_53.1 1), .int (u_53.1 2), .int (u_53.1 3), .int 0, .int (u_53.1 4), .int (u_53.1 5)])), (a0_0, .inl (cI, 1600, .inl f0_0)), (a0_1, .inl (cJ, 25, .inr (.inl g0_1)))] H := hP
  have hD : va_D A [(a2, .inr (5, [.ref a2_0, .ref a2_1, .ref a2_2, .ref a2_3, .ref a2_4, .ref a2_5, .ref a2_6, .ref a2_7, .ref a2_8, .ref a2_9, .ref a2_10, .ref a2_11, .int 0, .int 0, .int 0, .int 0, .int 0, .int 100, .int 0, .int 0])), (a2_9, .inl (cI, 3, .inl (u_9.2.2.1 0))), (a2_10, .inl (cI, 3, .inl (u_9.2.2.1 1))), (a0, .inr (2, [.ref a0_0, .ref a0_1, .ref a2, .int y_19, .int (u_53.1 0), .int (u_53.1 1), .int (u_53.1 2), .int (u_53.1 3), .int 0, .int (u_53.1 4), .int (u_53.1 5)])), (a0_0, .inl (cI, 1600, .inl f0_0)), (a0_1, .inl (cJ, 25, .inr (.inl g0_1)))] := hD
  have g_53_4 : XTS f0_0 g0_1 y_19.toNatClampNeg 0 256 v0_7 0 (-1) (u_53.1 0) (u_53.1 1) (u_53.1 2) (u_53.1 3) (u_53.1 4) (u_53.1 5) := g_53_4
  have g_53_5 : (0 : Int32) < 0 → (0 : Int32) < (u_53.1 4) := g_53_5
  have g_53_6 : ((u_53.1 4) = 0) ∨ (((u_53.1 2) = 259)) := g_53_6
  exact k_rv B hP hD hS dX2_begin_56 ((fun k9 => match k9 with | 0 => y_19 | 1 => (u_53.1 0) | 2 => (u_53.1 1) | 3 => (u_53.1 2) | 4 => (u_53.1 3) | 5 => (u_53.1 4) | 6 => (u_53.1 5) | _ => 0), (fun _ => 0), (fun k9 => match k9 with | 0 => (u_9.2.2.1 0) | 1 => (u_9.2.2.1 1) | _ => (fun _ => 0)), (fun _ => (fun _ => 0)), (fun _ => 0)) [3, 0, 4, 5, 1, 2] rfl rfl (Nat.le_of_ble_eq_true rfl) (Nat.le_of_ble_eq_true rfl) ⟨(show iR y_19 0 1600 from f_19_1), (show iR (u_53.1 0) 0 1600 from g_53_0), (show iR (u_53.1 1) 0 1600 from g_53_1), (show iR (u_53.1 2) 0 324 from g_53_2), (show iR (u_53.1 4) 0 6 from g_53_3), (show aR (u_9.2.2.1 0) 0 1600 from g_9_0), (show aR (u_9.2.2.1 1) 0 1600 from g_9_1), (show RBEG f0_0 g0_1 x1.toNatClampNeg (u_53.1 0) (u_53.1 1) (u_53.1 2) (u_53.1 3) (u_53.1 4) from (by rw [← (min_id hx1 ey_19)]; exact l_beg g_53_4 g_53_1 g_53_3)), (show y_19 = x1 from (min_id hx1 ey_19)), (show ∀ j9, j9 < 3 → (u_9.2.2.1 0) j9 = 0 from g_9_2), (show ∀ j9, j9 < 3 → (u_9.2.2.1 1) j9 = 0 from g_9_3), (show ((u_53.1 4) = 0) ∨ (((u_53.1 2) = 259)) from g_53_6)⟩
set_option maxHeartbeats 8000000 in
set_option maxRecDepth 100000 in
theorem s_X2_goesOn_v0 (l : Launch) (dC : Nat → ClassId) (dI : Nat → Nat → Nat) (cI cJ cZ cM : ClassId) (a0 : Nat) (a0_0 : Nat) (a0_1 : Nat) (a0_2 : Nat) (v0_3 : Int32) (v0_4 : Int32) (v0_5 : Int32) (v0_6 : Int32) (v0_7 : Int32) (v0_9 : Int32) (v0_10 : Int32) (hv0_3 : iR v0_3 0 1600) (hv0_4 : iR v0_4 0 1600) (hv0_5 : iR v0_5 0 1600) (hv0_6 : iR v0_6 0 324) (hv0_9 : iR v0_9 0 6) : k_Mi l yX2_goesOn wsX2_goesOn ({ frames := 1, cells := 0, slots := 0, locals := 40 }) (dC, dI) vwCl (tyy cI cJ cZ cM) [(a0, .inr (2, [.ref a0_0, .ref a0_1, .ref a0_2, .int v0_3, .int v0_4, .int v0_5, .int v0_6, .int v0_7, .int 0, .int v0_9, .int v0_10]))] [.ref a0] 0 0 (fun (u9 : Unit) => [(a0, .inr (2, [.ref a0_0, .ref a0_1, .ref a0_2, .int v0_3, .int v0_4, .int v0_5, .int v0_6, .int v0_7, .int 0, .int v0_9, .int v0_10]))]) (fun (r9 : Int32) (u9 : Unit) => (iR r9 0 1) ∧ (GO v0_9 v0_6 r9)) := by
  refine fun sz => k_enter (cc := cX2_goesOn) (maxL := 1) (ret := some (.boolean)) (Qc := fun A => va_Qi (fun (r9 : Int32) (u9 : Unit) => (iR r9 0 1) ∧ (GO v0_9 v0_6 r9)) (fun u => k_B (dC, dI) vwCl (tyy cI cJ cZ cM) A ((fun (u9 : Unit) => [(a0, .inr (2, [.ref a0_0, .ref a0_1, .ref a0_2, .int v0_3, .int v0_4, .int v0_5, .int v0_6, .int v0_7, .int 0, .int v0_9, .int v0_10]))]) u)) A) sz (by decide +kernel) rfl (Nat.le_of_ble_eq_true rfl) (fun p e s m args below meth c A ls H locs B hP hD hS hl => ?_)
  obtain ⟨hx, hb, hml, hown, hts, hr, hlk, hnm, hK, hA, hN, hC⟩ := id B
  have hown : s.vm.findClass RX2 = some m.cls := hown
  have hl : lv_has ls 1 [(0, .ref a0)] := hl
  have w_0 : (Cond.fieldLink RX2 63 "WishSea$Reader" "fault" "I").before args s = true := hts _ (List.mem_of_getElem? (i := 1) rfl)
  have w_1 : (Cond.fieldLink RX2 15 "WishSea$Reader" "token" "I").before args s = true := hts _ (List.mem_of_getElem? (i := 2) rfl)
  have hinX2 : ∀ w ∈ u_ws RX2 TX2 11, w ∈ wsX2_goesOn := fun _ h => List.mem_cons_of_mem _ (List.mem_append_right _ h)
  refine lv_aload_n hx hb dX2_goesOn_0 rfl (lv_at hl 0 rfl) ?_
  refine k_get (D := (dC, dI)) (ci := 2) (v := .int v0_9) (C := RX2) (T := TX2) (N := 11) hx hb hts hinX2 hown hK hP 0 rfl rfl 9 (by decide) w_0 rfl rfl dX2_goesOn_1 ?_
  refine lv_if_ne (tgt := 21) hx hb dX2_goesOn_4 (by decide) (fun c_4 => ?_) (fun c_4 => ?_)
  · have c_4 : ¬ v0_9 = 0 := c_4
    have f_21_1 : iR v0_9 1 6 := iR_neL c_4 hv0_9 (iR_c (n := 0) (a := 0) (b := 0) (by decide +kernel) (by decide +kernel)) (by decide +kernel)
    refine lv_iconst (v := 0) hx hb dX2_goesOn_21 (by decide +kernel) ?_
    exact k_ri B hP hD hS dX2_goesOn_22 () [0] rfl rfl rfl (Nat.le_of_ble_eq_true rfl) (Nat.le_of_ble_eq_true rfl) ⟨(show iR 0 0 1 from (iR_c (n := 0) (a := 0) (b := 1) (by decide +kernel) (by decide +kernel))), (show GO v0_9 v0_6 0 from (Or.inr ⟨rfl, Or.inl c_4⟩))⟩
  · have c_4 : v0_9 = 0 := c_4
    have f_7_1 : iR v0_9 0 0 := iR_eqL c_4 hv0_9 (iR_c (n := 0) (a := 0) (b := 0) (by decide +kernel) (by decide +kernel)) (by decide +kernel)
    refine lv_aload_n hx hb dX2_goesOn_7 rfl (lv_at hl 0 rfl) ?_
    refine k_get (D := (dC, dI)) (ci := 2) (v := .int v0_6) (C := RX2) (T := TX2) (N := 11) hx hb hts hinX2 hown hK hP 0 rfl rfl 6 (by decide) w_1 rfl rfl dX2_goesOn_8 ?_
    refine lv_sipush (v := 256) hx hb dX2_goesOn_11 (by decide +kernel) ?_
    refine lv_icmp_eq (tgt := 21) hx hb dX2_goesOn_14 (by decide) (fun c_14 => ?_) (fun c_14 => ?_)
    · have c_14 : v0_6 = 256 := c_14
      have f_21_2 : iR v0_6 256 256 := iR_eqL c_14 hv0_6 (iR_c (n := 256) (a := 256) (b := 256) (by decide +kernel) (by decide +kernel)) (by decide +kernel)
      refine lv_iconst (v := 0) hx hb dX2_goesOn_21 (by decide +kernel) ?_
      exact k_ri B hP hD hS dX2_goesOn_22 () [0] rfl rfl rfl (Nat.le_of_ble_eq_true rfl) (Nat.le_of_ble_eq_true rfl) ⟨(show iR 0 0 1 from (iR_c (n := 0) (a := 0) (b := 1) (by decide +kernel) (by decide +kernel))), (show GO v0_9 v0_6 0 from (Or.inr ⟨rfl, Or.inr c_14⟩))⟩
    · have c_14 : ¬ v0_6 = 256 := c_14
      refine lv_iconst (v := 1) hx hb dX2_goesOn_17 (by decide +kernel) ?_
      refine lv_goto (tgt := 22) hx hb dX2_goesOn_18 (by decide) ?_
      exact k_ri B hP hD hS dX2_goesOn_22 () [0] rfl rfl rfl (Nat.le_of_ble_eq_true rfl) (Nat.le_of_ble_eq_true rfl) ⟨(show iR 1 0 1 from (iR_c (n := 1) (a := 0) (b := 1) (by decide +kernel) (by decide +kernel))), (show GO v0_9 v0_6 1 from (Or.inl ⟨by decide, c_4, c_14⟩))⟩
set_option maxHeartbeats 8000000 in
set_option maxRecDepth 100000 in
theorem s_X0_put_v0 (l : Launch) (dC : Nat → ClassId) (dI : Nat → Nat → Nat) (cI cJ cZ cM : ClassId) (a0 : Nat) (x1 : Int32) (x2 : Int32) (x3 : Int32) (x4 : Int32) (v0_0 : Int32) (v0_1 : Int32) (v0_2 : Int32) (v0_3 : Int32)  : k_Mv l yX0_put wsX0_put ({ frames := 1, cells := 0, slots := 0, locals := 40 }) (dC, dI) vwCl (tyy cI cJ cZ cM) [(a0, .inr (0, [.int v0_0, .int v0_1, .int v0_2, .int v0_3]))] [.ref a0, .int x1, .int x2, .int x3, .int x4] 0 0 (fun (u9 : Unit) => [(a0, .inr (0, [.int x1, .int x2, .int x3, .int x4]))]) (fun (u9 : Unit) => True) := by
  refine fun sz => k_enter (cc := cX0_put) (maxL := 5) (ret := none) (Qc := fun A => va_Qv (fun (u9 : Unit) => True) (fun u => k_B (dC, dI) vwCl (tyy cI cJ cZ cM) A ((fun (u9 : Unit) => [(a0, .inr (0, [.int x1, .int x2, .int x3, .int x4]))]) u)) A) sz (by decide +kernel) rfl (Nat.le_of_ble_eq_true rfl) (fun p e s m args below meth c A ls H locs B hP hD hS hl => ?_)
  obtain ⟨hx, hb, hml, hown, hts, hr, hlk, hnm, hK, hA, hN, hC⟩ := id B
  have hown : s.vm.findClass RX0 = some m.cls := hown
  have hl : lv_has ls 5 [(0, .ref a0), (1, .int x1), (2, .int x2), (3, .int x3), (4, .int x4)] := hl
  have w_0 : (Cond.fieldLink RX0 7 "WishSea$Moment" "things" "I").before args s = true := hts _ (List.mem_of_getElem? (i := 1) rfl)
  have w_1 : (Cond.fieldLink RX0 13 "WishSea$Moment" "sea" "I").before args s = true := hts _ (List.mem_of_getElem? (i := 2) rfl)
  have w_2 : (Cond.fieldLink RX0 16 "WishSea$Moment" "said" "I").before args s = true := hts _ (List.mem_of_getElem? (i := 3) rfl)
  have w_3 : (Cond.fieldLink RX0 19 "WishSea$Moment" "day" "I").before args s = true := hts _ (List.mem_of_getElem? (i := 4) rfl)
  have hinX0 : ∀ w ∈ u_ws RX0 TX0 4, w ∈ wsX0_put := fun _ h => List.mem_cons_of_mem _ (List.mem_append_right _ h)
  refine lv_aload_n hx hb dX0_put_0 rfl (lv_at hl 0 rfl) ?_
  refine lv_iload_n hx hb dX0_put_1 rfl (lv_at hl 1 rfl) ?_
  refine k_put (D := (dC, dI)) (ci := 0) (v := .int x1) (C := RX0) (T := TX0) (N := 4) (ws' := [(a0, .inr (0, [.int x1, .int v0_1, .int v0_2, .int v0_3]))]) hx hb hts hinX0 tyX0 tyX0_ok nmX0 hown hK hP hD hS 0 rfl rfl 0 (by decide) w_0 rfl rfl rfl rfl (Nat.le_of_ble_eq_true rfl) rfl dX0_put_2 (fun H locs hP hD hS => ?_)
  refine lv_aload_n hx hb dX0_put_5 rfl (lv_at hl 0 rfl) ?_
  refine lv_iload_n hx hb dX0_put_6 rfl (lv_at hl 2 rfl) ?_
  refine k_put (D := (dC, dI)) (ci := 0) (v := .int x2) (C := RX0) (T := TX0) (N := 4) (ws' := [(a0, .inr (0, [.int x1, .int x2, .int v0_2, .int v0_3]))]) hx hb hts hinX0 tyX0 tyX0_ok nmX0 hown hK hP hD hS 0 rfl rfl 1 (by decide) w_1 rfl rfl rfl rfl (Nat.le_of_ble_eq_true rfl) rfl dX0_put_7 (fun H locs hP hD hS => ?_)
  refine lv_aload_n hx hb dX0_put_10 rfl (lv_at hl 0 rfl) ?_
  refine lv_iload_n hx hb dX0_put_11 rfl (lv_at hl 3 rfl) ?_
  refine k_put (D := (dC, dI)) (ci := 0) (v := .int x3) (C := RX0) (T := TX0) (N := 4) (ws' := [(a0, .inr (0, [.int x1, .int x2, .int x3, .int v0_3]))]) hx hb hts hinX0 tyX0 tyX0_ok nmX0 hown hK hP hD hS 0 rfl rfl 2 (by decide) w_2 rfl rfl rfl rfl (Nat.le_of_ble_eq_true rfl) rfl dX0_put_12 (fun H locs hP hD hS => ?_)
  refine lv_aload_n hx hb dX0_put_15 rfl (lv_at hl 0 rfl) ?_
  refine lv_iload hx hb dX0_put_16 (lv_at hl 4 rfl) ?_
  refine k_put (D := (dC, dI)) (ci := 0) (v := .int x4) (C := RX0) (T := TX0) (N := 4) (ws' := [(a0, .inr (0, [.int x1, .int x2, .int x3, .int x4]))]) hx hb hts hinX0 tyX0 tyX0_ok nmX0 hown hK hP hD hS 0 rfl rfl 3 (by decide) w_3 rfl rfl rfl rfl (Nat.le_of_ble_eq_true rfl) rfl dX0_put_18 (fun H locs hP hD hS => ?_)
  exact k_rv B hP hD hS dX0_put_21 () [0] rfl rfl (Nat.le_of_ble_eq_true rfl) (Nat.le_of_ble_eq_true rfl) trivial
set_option maxHeartbeats 8000000 in
set_option maxRecDepth 100000 in
theorem s_J7_fill_53178_v1 (l : Launch) (dC : Nat → ClassId) (dI : Nat → Nat → Nat) (cI cJ cZ cM : ClassId) (a0 : Nat) (f0 : Nat → Int32)  : k_Mv l yJ7_fill_53178 wsJ7_fill_53178 ({ frames := 1, cells := 0, slots := 0, locals := 40 }) (dC, dI) vwCl (tyy cI cJ cZ cM) [(a0, .inl (cI, 5, .inl f0))] [.ref a0, .int (-1)] 0 0 (fun (u9 : SU) => [(a0, .inl (cI, 5, .inl (u9.2.2.1 0)))]) (fun (u9 : SU) => (∀ j9, j9 < 5 → (u9.2.2.1 0) j9 = ((-1) : Int32))) := by
  refine fun sz => k_enterF (cc := cJ7_fill_53178) (maxL := 4) (ret := none) (Qc := fun A => va_Qv (fun (u9 : SU) => (∀ j9, j9 < 5 → (u9.2.2.1 0) j9 = ((-1) : Int32))) (fun u => k_B (dC, dI) vwCl (tyy cI cJ cZ cM) A ((fun (u9 : SU) => [(a0, .inl (cI, 5, .inl (u9.2.2.1 0)))]) u)) A) sz (by decide +kernel) rfl (Nat.le_of_ble_eq_true rfl) (fun p e s m args below meth c A ls H locs B hP hD hS hl => ?_)
  obtain ⟨hx, hb, hml, hown, hts, hr, hlk, hnm, hK, hA, hN, hC⟩ := id B
  have hown : s.vm.findClass RJ7 = some m.cls := hown
  have hl : lv_has ls 4 [(0, .ref a0), (1, .int (-1))] := hl
  refine lv_iconst (v := 0) hx hb dJ7_fill_53178_0 (by decide +kernel) ?_
  refine lv_istore_n (lv' := [(2, .int 0), (0, .ref a0), (1, .int (-1))]) hx hb dJ7_fill_53178_1 rfl hl (by decide) rfl (fun ls hl => ?_)
  refine lv_aload_n hx hb dJ7_fill_53178_2 rfl (lv_at hl 1 rfl) ?_
  refine va_alen (v := 5) hx hb hK hP 0 0 rfl rfl rfl dJ7_fill_53178_3 ?_
  have J_5 : ∀ (n_5 : Nat) (j5_A0 : Nat → Int32) (j5_L2 : Int32) (hj5_L2 : iR j5_L2 0 5) (p5_0 : ∀ j9, j9 < j5_L2.toNatClampNeg → j5_A0 j9 = ((-1) : Int32)) (hm_5 : (5 - j5_L2.toInt).toNat < n_5) (H : Heap) (locs : List Loc) (ls : Array Slot), va_P (dC, dI) vwCl [(a0, .inl (cI, 5, .inl j5_A0))] H → va_D A [(a0, .inl (cI, 5, .inl j5_A0))] → va_S A s.heap H locs → lv_has ls 4 [(0, .ref a0), (1, .int (-1)), (2, .int j5_L2), (3, .int 5)] → W p l e ({ frames := 1, cells := 0, slots := 0, locals := 40 }) s m args below meth c H locs 0 0 (MQ below (va_Qv (fun (u9 : SU) => (∀ j9, j9 < 5 → (u9.2.2.1 0) j9 = ((-1) : Int32))) (fun u => k_B (dC, dI) vwCl (tyy cI cJ cZ cM) A ((fun (u9 : SU) => [(a0, .inl (cI, 5, .inl (u9.2.2.1 0)))]) u)) A) args s 0 0 A) (F0 m 5 ls []) := by
    intro n_5
    induction n_5 with
    | zero => intro j5_A0 j5_L2 hj5_L2 p5_0 hm_5; exact absurd hm_5 (Nat.not_lt_zero _)
    | succ n_5 ih_5 =>
      intro j5_A0 j5_L2 hj5_L2 p5_0 hm_5 H locs ls hP hD hS hl
      refine lv_iload_n hx hb dJ7_fill_53178_5 rfl (lv_at hl 2 rfl) ?_
      refine lv_iload_n hx hb dJ7_fill_53178_6 rfl (lv_at hl 3 rfl) ?_
      refine lv_icmp_ge (tgt := 20) hx hb dJ7_fill_53178_7 (by decide) (fun c_7 => ?_) (fun c_7 => ?_)
      · have c_7 : 5 ≤ j5_L2 := c_7
        have f_20_1 : iR j5_L2 5 5 := iR_leR c_7 (iR_c (n := 5) (a := 5) (b := 5) (by decide +kernel) (by decide +kernel)) hj5_L2 (by decide +kernel)
        exact k_rv B hP hD hS dJ7_fill_53178_20 ((fun _ => 0), (fun _ => 0), (fun k9 => match k9 with | 0 => j5_A0 | _ => (fun _ => 0)), (fun _ => (fun _ => 0)), (fun _ => 0)) [0] rfl rfl (Nat.le_of_ble_eq_true rfl) (Nat.le_of_ble_eq_true rfl) (show ∀ j9, j9 < 5 → j5_A0 j9 = ((-1) : Int32) from (fun j9 hj => p5_0 j9 (Nat.lt_of_lt_of_le hj (i_geL c_7 f_20_1 (by decide +kernel)))))
      · have c_7 : j5_L2 < 5 := i_nle c_7
        have f_10_1 : iR j5_L2 0 4 := iR_ltL c_7 hj5_L2 (iR_c (n := 5) (a := 5) (b := 5) (by decide +kernel) (by decide +kernel)) (by decide +kernel)
        refine lv_aload_n hx hb dJ7_fill_53178_10 rfl (lv_at hl 0 rfl) ?_
        refine lv_iload_n hx hb dJ7_fill_53178_11 rfl (lv_at hl 2 rfl) ?_
        refine lv_iload_n hx hb dJ7_fill_53178_12 rfl (lv_at hl 1 rfl) ?_
        refine s_iast (g := (upd j5_A0 j5_L2.toNatClampNeg (-1))) (ws' := [(a0, .inl (cI, 5, .inl (upd j5_A0 j5_L2.toNatClampNeg (-1))))]) hx hb hK hP hD hS 0 0 rfl rfl (iR_vp f_10_1 (by decide +kernel)) rfl rfl dJ7_fill_53178_13 (fun H locs hP hD hS => ?_)
        obtain ⟨y_14, ey_14⟩ : ∃ y : Int32, y = j5_L2 + 1 := ⟨_, rfl⟩
        refine lv_iinc (v := y_14) (lv' := [(2, .int y_14), (0, .ref a0), (1, .int (-1)), (3, .int 5)]) hx hb dJ7_fill_53178_14 hl (k := 2) rfl ey_14.symm (by decide) rfl (fun ls hl => ?_)
        have f_14_2 : iR y_14 1 5 := iR_add ey_14 f_10_1 (iR_c (n := 1) (a := 1) (b := 1) (by decide +kernel) (by decide +kernel)) (by decide +kernel)
        refine lv_goto (tgt := 5) hx hb dJ7_fill_53178_17 (by decide) ?_
        exact ih_5 (upd j5_A0 j5_L2.toNatClampNeg (-1)) y_14 (iR_w f_14_2 (by decide +kernel)) (show ∀ j9, j9 < y_14.toNatClampNeg → (upd j5_A0 j5_L2.toNatClampNeg (-1)) j9 = ((-1) : Int32) from (by rw [i_succ ey_14 f_10_1 (by decide +kernel)]; exact fill_s p5_0)) (m_up (B := 5) hm_5 ey_14 f_10_1 (by decide +kernel)) H locs ls hP hD hS (lv_sub hl [1, 2, 0, 3] rfl)
  refine lv_istore_n (lv' := [(3, .int 5), (2, .int 0), (0, .ref a0), (1, .int (-1))]) hx hb dJ7_fill_53178_4 rfl hl (by decide) rfl (fun ls hl => ?_)
  exact J_5 _ f0 0 (iR_c (n := 0) (a := 0) (b := 5) (by decide +kernel) (by decide +kernel)) (show ∀ j9, j9 < 0 → f0 j9 = ((-1) : Int32) from (fun j9 hj => absurd hj (Nat.not_lt_zero _))) (Nat.lt_succ_self _) H locs ls hP hD hS (lv_sub hl [2, 3, 1, 0] rfl)
set_option maxHeartbeats 8000000 in
set_option maxRecDepth 100000 in
theorem s_J7_fill_d0a16_v0 (l : Launch) (dC : Nat → ClassId) (dI : Nat → Nat → Nat) (cI cJ cZ cM : ClassId) (a0 : Nat) (g0 : Nat → Int64)  : k_Mv l yJ7_fill_d0a16 wsJ7_fill_d0a16 ({ frames := 1, cells := 0, slots := 0, locals := 40 }) (dC, dI) vwCl (tyy cI cJ cZ cM) [(a0, .inl (cJ, 13, .inr (.inl g0)))] [.ref a0, .long (-1)] 0 0 (fun (u9 : SU) => [(a0, .inl (cJ, 13, .inr (.inl (u9.2.2.2.1 0))))]) (fun (u9 : SU) => True) := by
  refine fun sz => k_enterF (cc := cJ7_fill_d0a16) (maxL := 5) (ret := none) (Qc := fun A => va_Qv (fun (u9 : SU) => True) (fun u => k_B (dC, dI) vwCl (tyy cI cJ cZ cM) A ((fun (u9 : SU) => [(a0, .inl (cJ, 13, .inr (.inl (u9.2.2.2.1 0))))]) u)) A) sz (by decide +kernel) rfl (Nat.le_of_ble_eq_true rfl) (fun p e s m args below meth c A ls H locs B hP hD hS hl => ?_)
  obtain ⟨hx, hb, hml, hown, hts, hr, hlk, hnm, hK, hA, hN, hC⟩ := id B
  have hown : s.vm.findClass RJ7 = some m.cls := hown
  have hl : lv_has ls 5 [(0, .ref a0), (1, .long (-1))] := hl
  refine lv_iconst (v := 0) hx hb dJ7_fill_d0a16_0 (by decide +kernel) ?_
  refine lv_istore_n (lv' := [(3, .int 0), (0, .ref a0), (1, .long (-1))]) hx hb dJ7_fill_d0a16_1 rfl hl (by decide) rfl (fun ls hl => ?_)
  refine lv_aload_n hx hb dJ7_fill_d0a16_2 rfl (lv_at hl 1 rfl) ?_
  refine va_alen (v := 13) hx hb hK hP 0 1 rfl rfl rfl dJ7_fill_d0a16_3 ?_
  have J_6 : ∀ (n_6 : Nat) (j6_A0 : Nat → Int64) (j6_L3 : Int32) (hj6_L3 : iR j6_L3 0 13) (hm_6 : (13 - j6_L3.toInt).toNat < n_6) (H : Heap) (locs : List Loc) (ls : Array Slot), va_P (dC, dI) vwCl [(a0, .inl (cJ, 13, .inr (.inl j6_A0)))] H → va_D A [(a0, .inl (cJ, 13, .inr (.inl j6_A0)))] → va_S A s.heap H locs → lv_has ls 5 [(0, .ref a0), (1, .long (-1)), (3, .int j6_L3), (4, .int 13)] → W p l e ({ frames := 1, cells := 0, slots := 0, locals := 40 }) s m args below meth c H locs 0 0 (MQ below (va_Qv (fun (u9 : SU) => True) (fun u => k_B (dC, dI) vwCl (tyy cI cJ cZ cM) A ((fun (u9 : SU) => [(a0, .inl (cJ, 13, .inr (.inl (u9.2.2.2.1 0))))]) u)) A) args s 0 0 A) (F0 m 6 ls []) := by
    intro n_6
    induction n_6 with
    | zero => intro j6_A0 j6_L3 hj6_L3 hm_6; exact absurd hm_6 (Nat.not_lt_zero _)
    | succ n_6 ih_6 =>
      intro j6_A0 j6_L3 hj6_L3 hm_6 H locs ls hP hD hS hl
      refine lv_iload_n hx hb dJ7_fill_d0a16_6 rfl (lv_at hl 2 rfl) ?_
      refine lv_iload hx hb dJ7_fill_d0a16_7 (lv_at hl 3 rfl) ?_
      refine lv_icmp_ge (tgt := 22) hx hb dJ7_fill_d0a16_9 (by decide) (fun c_9 => ?_) (fun c_9 => ?_)
      · have c_9 : 13 ≤ j6_L3 := c_9
        have f_22_1 : iR j6_L3 13 13 := iR_leR c_9 (iR_c (n := 13) (a := 13) (b := 13) (by decide +kernel) (by decide +kernel)) hj6_L3 (by decide +kernel)
        exact k_rv B hP hD hS dJ7_fill_d0a16_22 ((fun _ => 0), (fun _ => 0), (fun _ => (fun _ => 0)), (fun k9 => match k9 with | 0 => j6_A0 | _ => (fun _ => 0)), (fun _ => 0)) [0] rfl rfl (Nat.le_of_ble_eq_true rfl) (Nat.le_of_ble_eq_true rfl) trivial
      · have c_9 : j6_L3 < 13 := i_nle c_9
        have f_12_1 : iR j6_L3 0 12 := iR_ltL c_9 hj6_L3 (iR_c (n := 13) (a := 13) (b := 13) (by decide +kernel) (by decide +kernel)) (by decide +kernel)
        refine lv_aload_n hx hb dJ7_fill_d0a16_12 rfl (lv_at hl 0 rfl) ?_
        refine lv_iload_n hx hb dJ7_fill_d0a16_13 rfl (lv_at hl 2 rfl) ?_
        refine lv_lload_n hx hb dJ7_fill_d0a16_14 rfl (lv_at hl 1 rfl) ?_
        refine s_last (g := (vp_updL j6_A0 j6_L3.toNatClampNeg (-1))) (ws' := [(a0, .inl (cJ, 13, .inr (.inl (vp_updL j6_A0 j6_L3.toNatClampNeg (-1)))))]) hx hb hK hP hD hS 0 1 rfl rfl (iR_vp f_12_1 (by decide +kernel)) rfl rfl dJ7_fill_d0a16_15 (fun H locs hP hD hS => ?_)
        obtain ⟨y_16, ey_16⟩ : ∃ y : Int32, y = j6_L3 + 1 := ⟨_, rfl⟩
        refine lv_iinc (v := y_16) (lv' := [(3, .int y_16), (0, .ref a0), (1, .long (-1)), (4, .int 13)]) hx hb dJ7_fill_d0a16_16 hl (k := 2) rfl ey_16.symm (by decide) rfl (fun ls hl => ?_)
        have f_16_2 : iR y_16 1 13 := iR_add ey_16 f_12_1 (iR_c (n := 1) (a := 1) (b := 1) (by decide +kernel) (by decide +kernel)) (by decide +kernel)
        refine lv_goto (tgt := 6) hx hb dJ7_fill_d0a16_19 (by decide) ?_
        exact ih_6 (vp_updL j6_A0 j6_L3.toNatClampNeg (-1)) y_16 (iR_w f_16_2 (by decide +kernel)) (m_up (B := 13) hm_6 ey_16 f_12_1 (by decide +kernel)) H locs ls hP hD hS (lv_sub hl [1, 2, 0, 3] rfl)
  refine lv_istore (lv' := [(4, .int 13), (3, .int 0), (0, .ref a0), (1, .long (-1))]) hx hb dJ7_fill_d0a16_4 hl (by decide) rfl (fun ls hl => ?_)
  exact J_6 _ g0 0 (iR_c (n := 0) (a := 0) (b := 13) (by decide +kernel) (by decide +kernel)) (Nat.lt_succ_self _) H locs ls hP hD hS (lv_sub hl [2, 3, 1, 0] rfl)
set_option maxHeartbeats 8000000 in
set_option maxRecDepth 100000 in
theorem s_X1_forget_v1 (l : Launch) (dC : Nat → ClassId) (dI : Nat → Nat → Nat) (cI cJ cZ cM : ClassId) (a0 : Nat) (b0_0 : Nat) (v0_1 : Int32) (b0_2 : Nat) (b0_3 : Nat) (v0_4 : Int32) (v0_5 : Int32) (hv0_1 : iR v0_1 0 100000) (hv0_4 : iR v0_4 0 600) (hv0_5 : iR v0_5 0 20) : k_Mv l yX1_forget wsX1_forget ({ frames := 1, cells := 0, slots := 0, locals := 40 }) (dC, dI) vwCl (tyy cI cJ cZ cM) [(a0, .inr (1, [.ref b0_0, .int v0_1, .ref b0_2, .ref b0_3, .int v0_4, .int v0_5]))] [.ref a0] 0 0 (fun (u9 : Unit) => [(a0, .inr (1, [.ref b0_0, .int 0, .ref b0_2, .ref b0_3, .int 0, .int 0]))]) (fun (u9 : Unit) => True) := by
  refine fun sz => k_enter (cc := cX1_forget) (maxL := 1) (ret := none) (Qc := fun A => va_Qv (fun (u9 : Unit) => True) (fun u => k_B (dC, dI) vwCl (tyy cI cJ cZ cM) A ((fun (u9 : Unit) => [(a0, .inr (1, [.ref b0_0, .int 0, .ref b0_2, .ref b0_3, .int 0, .int 0]))]) u)) A) sz (by decide +kernel) rfl (Nat.le_of_ble_eq_true rfl) (fun p e s m args below meth c A ls H locs B hP hD hS hl => ?_)
  obtain ⟨hx, hb, hml, hown, hts, hr, hlk, hnm, hK, hA, hN, hC⟩ := id B
  have hown : s.vm.findClass RX1 = some m.cls := hown
  have hl : lv_has ls 1 [(0, .ref a0)] := hl
  have w_0 : (Cond.fieldLink RX1 25 "WishSea$Past" "logged" "I").before args s = true := hts _ (List.mem_of_getElem? (i := 1) rfl)
  have w_1 : (Cond.fieldLink RX1 29 "WishSea$Past" "acts" "I").before args s = true := hts _ (List.mem_of_getElem? (i := 2) rfl)
  have w_2 : (Cond.fieldLink RX1 32 "WishSea$Past" "undoable" "I").before args s = true := hts _ (List.mem_of_getElem? (i := 3) rfl)
  have hinX1 : ∀ w ∈ u_ws RX1 TX1 6, w ∈ wsX1_forget := fun _ h => List.mem_cons_of_mem _ (List.mem_append_right _ h)
  refine lv_aload_n hx hb dX1_forget_0 rfl (lv_at hl 0 rfl) ?_
  refine lv_iconst (v := 0) hx hb dX1_forget_1 (by decide +kernel) ?_
  refine k_put (D := (dC, dI)) (ci := 1) (v := .int 0) (C := RX1) (T := TX1) (N := 6) (ws' := [(a0, .inr (1, [.ref b0_0, .int 0, .ref b0_2, .ref b0_3, .int v0_4, .int v0_5]))]) hx hb hts hinX1 tyX1 tyX1_ok nmX1 hown hK hP hD hS 0 rfl rfl 1 (by decide) w_0 rfl rfl rfl rfl (Nat.le_of_ble_eq_true rfl) rfl dX1_forget_2 (fun H locs hP hD hS => ?_)
  refine lv_aload_n hx hb dX1_forget_5 rfl (lv_at hl 0 rfl) ?_
  refine lv_iconst (v := 0) hx hb dX1_forget_6 (by decide +kernel) ?_
  refine k_put (D := (dC, dI)) (ci := 1) (v := .int 0) (C := RX1) (T := TX1) (N := 6) (ws' := [(a0, .inr (1, [.ref b0_0, .int 0, .ref b0_2, .ref b0_3, .int 0, .int v0_5]))]) hx hb hts hinX1 tyX1 tyX1_ok nmX1 hown hK hP hD hS 0 rfl rfl 4 (by decide) w_1 rfl rfl rfl rfl (Nat.le_of_ble_eq_true rfl) rfl dX1_forget_7 (fun H locs hP hD hS => ?_)
  refine lv_aload_n hx hb dX1_forget_10 rfl (lv_at hl 0 rfl) ?_
  refine lv_iconst (v := 0) hx hb dX1_forget_11 (by decide +kernel) ?_
  refine k_put (D := (dC, dI)) (ci := 1) (v := .int 0) (C := RX1) (T := TX1) (N := 6) (ws' := [(a0, .inr (1, [.ref b0_0, .int 0, .ref b0_2, .ref b0_3, .int 0, .int 0]))]) hx hb hts hinX1 tyX1 tyX1_ok nmX1 hown hK hP hD hS 0 rfl rfl 5 (by decide) w_2 rfl rfl rfl rfl (Nat.le_of_ble_eq_true rfl) rfl dX1_forget_12 (fun H locs hP hD hS => ?_)
  exact k_rv B hP hD hS dX1_forget_15 () [0] rfl rfl (Nat.le_of_ble_eq_true rfl) (Nat.le_of_ble_eq_true rfl) trivial
set_option maxHeartbeats 8000000 in
set_option maxRecDepth 100000 in
theorem s_X3_forget_v1 (l : Launch) (dC : Nat → ClassId) (dI : Nat → Nat → Nat) (cI cJ cZ cM : ClassId) (a0 : Nat) (b0_0 : Nat) (b0_1 : Nat) (a0_2 : Nat) (f0_2 : Nat → Int32) (b0_3 : Nat) (b0_4 : Nat) (b0_5 : Nat) (v0_6 : Int32) (hv0_6 : iR v0_6 0 4) (hf0_2 : aR f0_2 0 1) : k_Mv l yX3_forget wsX3_forget ({ frames := 1, cells := 0, slots := 0, locals := 40 }) (dC, dI) vwCl (tyy cI cJ cZ cM) [(a0, .inr (3, [.ref b0_0, .ref b0_1, .ref a0_2, .ref b0_3, .ref b0_4, .ref b0_5, .int v0_6])), (a0_2, .inl (cZ, 5, .inl f0_2))] [.ref a0] 0 0 (fun (u9 : SU) => [(a0, .inr (3, [.ref b0_0, .ref b0_1, .ref a0_2, .ref b0_3, .ref b0_4, .ref b0_5, .int v0_6])), (a0_2, .inl (cZ, 5, .inl (u9.2.2.1 0)))]) (fun (u9 : SU) => (aR (u9.2.2.1 0) 0 1)) := by
  refine fun sz => k_enter (cc := cX3_forget) (maxL := 2) (ret := none) (Qc := fun A => va_Qv (fun (u9 : SU) => (aR (u9.2.2.1 0) 0 1)) (fun u => k_B (dC, dI) vwCl (tyy cI cJ cZ cM) A ((fun (u9 : SU) => [(a0, .inr (3, [.ref b0_0, .ref b0_1, .ref a0_2, .ref b0_3, .ref b0_4, .ref b0_5, .int v0_6])), (a0_2, .inl (cZ, 5, .inl (u9.2.2.1 0)))]) u)) A) sz (by decide +kernel) rfl (Nat.le_of_ble_eq_true rfl) (fun p e s m args below meth c A ls H locs B hP hD hS hl => ?_)
  obtain ⟨hx, hb, hml, hown, hts, hr, hlk, hnm, hK, hA, hN, hC⟩ := id B
  have hown : s.vm.findClass RX3 = some m.cls := hown
  have hl : lv_has ls 2 [(0, .ref a0)] := hl
  have w_0 : (Cond.fieldLink RX3 18 "WishSea$Rivalry" "played" "[Z").before args s = true := hts _ (List.mem_of_getElem? (i := 1) rfl)
  have hinX3 : ∀ w ∈ u_ws RX3 TX3 7, w ∈ wsX3_forget := fun _ h => List.mem_cons_of_mem _ (List.mem_append_right _ h)
  refine lv_iconst (v := 0) hx hb dX3_forget_0 (by decide +kernel) ?_
  have J_2 : ∀ (n_2 : Nat) (j2_A1 : Nat → Int32) (j2_L1 : Int32) (hj2_A1 : aR j2_A1 0 1) (hj2_L1 : iR j2_L1 0 5) (hm_2 : (5 - j2_L1.toInt).toNat < n_2) (H : Heap) (locs : List Loc) (ls : Array Slot), va_P (dC, dI) vwCl [(a0, .inr (3, [.ref b0_0, .ref b0_1, .ref a0_2, .ref b0_3, .ref b0_4, .ref b0_5, .int v0_6])), (a0_2, .inl (cZ, 5, .inl j2_A1))] H → va_D A [(a0, .inr (3, [.ref b0_0, .ref b0_1, .ref a0_2, .ref b0_3, .ref b0_4, .ref b0_5, .int v0_6])), (a0_2, .inl (cZ, 5, .inl j2_A1))] → va_S A s.heap H locs → lv_has ls 2 [(0, .ref a0), (1, .int j2_L1)] → W p l e ({ frames := 1, cells := 0, slots := 0, locals := 40 }) s m args below meth c H locs 0 0 (MQ below (va_Qv (fun (u9 : SU) => (aR (u9.2.2.1 0) 0 1)) (fun u => k_B (dC, dI) vwCl (tyy cI cJ cZ cM) A ((fun (u9 : SU) => [(a0, .inr (3, [.ref b0_0, .ref b0_1, .ref a0_2, .ref b0_3, .ref b0_4, .ref b0_5, .int v0_6])), (a0_2, .inl (cZ, 5, .inl (u9.2.2.1 0)))]) u)) A) args s 0 0 A) (F0 m 2 ls []) := by
    intro n_2
    induction n_2 with
    | zero => intro j2_A1 j2_L1 hj2_A1 hj2_L1 hm_2; exact absurd hm_2 (Nat.not_lt_zero _)
    | succ n_2 ih_2 =>
      intro j2_A1 j2_L1 hj2_A1 hj2_L1 hm_2 H locs ls hP hD hS hl
      refine lv_iload_n hx hb dX3_forget_2 rfl (lv_at hl 1 rfl) ?_
      refine lv_aload_n hx hb dX3_forget_3 rfl (lv_at hl 0 rfl) ?_
      refine k_get (D := (dC, dI)) (ci := 3) (v := .ref a0_2) (C := RX3) (T := TX3) (N := 7) hx hb hts hinX3 hown hK hP 0 rfl rfl 2 (by decide) w_0 rfl rfl dX3_forget_4 ?_
      refine va_alen (v := 5) hx hb hK hP 1 2 rfl rfl rfl dX3_forget_7 ?_
      refine lv_icmp_ge (tgt := 24) hx hb dX3_forget_8 (by decide) (fun c_8 => ?_) (fun c_8 => ?_)
      · have c_8 : 5 ≤ j2_L1 := c_8
        have f_24_1 : iR j2_L1 5 5 := iR_leR c_8 (iR_c (n := 5) (a := 5) (b := 5) (by decide +kernel) (by decide +kernel)) hj2_L1 (by decide +kernel)
        exact k_rv B hP hD hS dX3_forget_24 ((fun _ => 0), (fun _ => 0), (fun k9 => match k9 with | 0 => j2_A1 | _ => (fun _ => 0)), (fun _ => (fun _ => 0)), (fun _ => 0)) [0, 1] rfl rfl (Nat.le_of_ble_eq_true rfl) (Nat.le_of_ble_eq_true rfl) (show aR j2_A1 0 1 from hj2_A1)
      · have c_8 : j2_L1 < 5 := i_nle c_8
        have f_11_1 : iR j2_L1 0 4 := iR_ltL c_8 hj2_L1 (iR_c (n := 5) (a := 5) (b := 5) (by decide +kernel) (by decide +kernel)) (by decide +kernel)
        refine lv_aload_n hx hb dX3_forget_11 rfl (lv_at hl 0 rfl) ?_
        refine k_get (D := (dC, dI)) (ci := 3) (v := .ref a0_2) (C := RX3) (T := TX3) (N := 7) hx hb hts hinX3 hown hK hP 0 rfl rfl 2 (by decide) w_0 rfl rfl dX3_forget_12 ?_
        refine lv_iload_n hx hb dX3_forget_15 rfl (lv_at hl 1 rfl) ?_
        refine lv_iconst (v := 0) hx hb dX3_forget_16 (by decide +kernel) ?_
        refine s_zast (g := (upd j2_A1 j2_L1.toNatClampNeg 0)) (ws' := [(a0, .inr (3, [.ref b0_0, .ref b0_1, .ref a0_2, .ref b0_3, .ref b0_4, .ref b0_5, .int v0_6])), (a0_2, .inl (cZ, 5, .inl (upd j2_A1 j2_L1.toNatClampNeg 0)))]) hx hb hK hP hD hS 1 2 rfl rfl (iR_vp f_11_1 (by decide +kernel)) rfl rfl rfl dX3_forget_17 (fun H locs hP hD hS => ?_)
        obtain ⟨y_18, ey_18⟩ : ∃ y : Int32, y = j2_L1 + 1 := ⟨_, rfl⟩
        refine lv_iinc (v := y_18) (lv' := [(1, .int y_18), (0, .ref a0)]) hx hb dX3_forget_18 hl (k := 1) rfl ey_18.symm (by decide) rfl (fun ls hl => ?_)
        have f_18_2 : iR y_18 1 5 := iR_add ey_18 f_11_1 (iR_c (n := 1) (a := 1) (b := 1) (by decide +kernel) (by decide +kernel)) (by decide +kernel)
        refine lv_goto (tgt := 2) hx hb dX3_forget_21 (by decide) ?_
        exact ih_2 (upd j2_A1 j2_L1.toNatClampNeg 0) y_18 (aR_upd _ hj2_A1 (iR_c (n := 0) (a := 0) (b := 1) (by decide +kernel) (by decide +kernel))) (iR_w f_18_2 (by decide +kernel)) (m_up (B := 5) hm_2 ey_18 f_11_1 (by decide +kernel)) H locs ls hP hD hS (lv_sub hl [1, 0] rfl)
  refine lv_istore_n (lv' := [(1, .int 0), (0, .ref a0)]) hx hb dX3_forget_1 rfl hl (by decide) rfl (fun ls hl => ?_)
  exact J_2 _ f0_2 0 hf0_2 (iR_c (n := 0) (a := 0) (b := 5) (by decide +kernel) (by decide +kernel)) (Nat.lt_succ_self _) H locs ls hP hD hS (lv_sub hl [1, 0] rfl)
set_option maxHeartbeats 8000000 in
set_option maxRecDepth 100000 in
theorem s_X2_beginsStatement_v0 (l : Launch) (dC : Nat → ClassId) (dI : Nat → Nat → Nat) (cI cJ cZ cM : ClassId) (x0 : Int32)  : k_Mi l yX2_beginsStatement wsX2_beginsStatement ({ frames := 1, cells := 0, slots := 0, locals := 40 }) (dC, dI) vwCl (tyy cI cJ cZ cM) [] [.int x0] 0 0 (fun (u9 : Unit) => []) (fun (r9 : Int32) (u9 : Unit) => (iR r9 0 1) ∧ (r9 = bI (bgn x0))) := by
  refine fun sz => k_enter (cc := cX2_beginsStatement) (maxL := 1) (ret := some (.boolean)) (Qc := fun A => va_Qi (fun (r9 : Int32) (u9 : Unit) => (iR r9 0 1) ∧ (r9 = bI (bgn x0))) (fun u => k_B (dC, dI) vwCl (tyy cI cJ cZ cM) A ((fun (u9 : Unit) => []) u)) A) sz (by decide +kernel) rfl (Nat.le_of_ble_eq_true rfl) (fun p e s m args below meth c A ls H locs B hP hD hS hl => ?_)
  obtain ⟨hx, hb, hml, hown, hts, hr, hlk, hnm, hK, hA, hN, hC⟩ := id B
  have hown : s.vm.findClass RX2 = some m.cls := hown
  have hl : lv_has ls 1 [(0, .int x0)] := hl
  refine lv_iload_n hx hb dX2_beginsStatement_0 rfl (lv_at hl 0 rfl) ?_
  refine lv_sipush (v := 300) hx hb dX2_beginsStatement_1 (by decide +kernel) ?_
  refine lv_icmp_eq (tgt := 28) hx hb dX2_beginsStatement_4 (by decide) (fun c_4 => ?_) (fun c_4 => ?_)
  · have c_4 : x0 = 300 := c_4
    have f_28_1 : iR x0 300 300 := iR_eqL c_4 (iR_top _) (iR_c (n := 300) (a := 300) (b := 300) (by decide +kernel) (by decide +kernel)) (by decide +kernel)
    refine lv_iconst (v := 1) hx hb dX2_beginsStatement_28 (by decide +kernel) ?_
    refine lv_goto (tgt := 33) hx hb dX2_beginsStatement_29 (by decide) ?_
    exact k_ri B hP hD hS dX2_beginsStatement_33 () [] rfl rfl rfl (Nat.le_of_ble_eq_true rfl) (Nat.le_of_ble_eq_true rfl) ⟨(show iR 1 0 1 from (iR_c (n := 1) (a := 0) (b := 1) (by decide +kernel) (by decide +kernel))), (show 1 = bI (bgn x0) from (bI_1 (decide_eq_true (Or.inl c_4))))⟩
  · have c_4 : ¬ x0 = 300 := c_4
    refine lv_iload_n hx hb dX2_beginsStatement_7 rfl (lv_at hl 0 rfl) ?_
    refine lv_sipush (v := 304) hx hb dX2_beginsStatement_8 (by decide +kernel) ?_
    refine lv_icmp_eq (tgt := 28) hx hb dX2_beginsStatement_11 (by decide) (fun c_11 => ?_) (fun c_11 => ?_)
    · have c_11 : x0 = 304 := c_11
      have f_28_1 : iR x0 304 304 := iR_eqL c_11 (iR_top _) (iR_c (n := 304) (a := 304) (b := 304) (by decide +kernel) (by decide +kernel)) (by decide +kernel)
      refine lv_iconst (v := 1) hx hb dX2_beginsStatement_28 (by decide +kernel) ?_
      refine lv_goto (tgt := 33) hx hb dX2_beginsStatement_29 (by decide) ?_
      exact k_ri B hP hD hS dX2_beginsStatement_33 () [] rfl rfl rfl (Nat.le_of_ble_eq_true rfl) (Nat.le_of_ble_eq_true rfl) ⟨(show iR 1 0 1 from (iR_c (n := 1) (a := 0) (b := 1) (by decide +kernel) (by decide +kernel))), (show 1 = bI (bgn x0) from (bI_1 (decide_eq_true (Or.inr (Or.inl c_11)))))⟩
    · have c_11 : ¬ x0 = 304 := c_11
      refine lv_iload_n hx hb dX2_beginsStatement_14 rfl (lv_at hl 0 rfl) ?_
      refine lv_sipush (v := 309) hx hb dX2_beginsStatement_15 (by decide +kernel) ?_
      refine lv_icmp_lt (tgt := 32) hx hb dX2_beginsStatement_18 (by decide) (fun c_18 => ?_) (fun c_18 => ?_)
      · have c_18 : x0 < 309 := c_18
        have f_32_1 : iR x0 (-2147483648) 308 := iR_ltL c_18 (iR_top _) (iR_c (n := 309) (a := 309) (b := 309) (by decide +kernel) (by decide +kernel)) (by decide +kernel)
        refine lv_iconst (v := 0) hx hb dX2_beginsStatement_32 (by decide +kernel) ?_
        exact k_ri B hP hD hS dX2_beginsStatement_33 () [] rfl rfl rfl (Nat.le_of_ble_eq_true rfl) (Nat.le_of_ble_eq_true rfl) ⟨(show iR 0 0 1 from (iR_c (n := 0) (a := 0) (b := 1) (by decide +kernel) (by decide +kernel))), (show 0 = bI (bgn x0) from (bI_0 (decide_eq_false (fun q9 => q9.elim (fun q9 => c_4 q9) (fun q9 => q9.elim (fun q9 => c_11 q9) (fun q9 => i_lenl q9.1 c_18))))))⟩
      · have c_18 : 309 ≤ x0 := i_nlt c_18
        have f_21_1 : iR x0 309 2147483647 := iR_leR c_18 (iR_c (n := 309) (a := 309) (b := 309) (by decide +kernel) (by decide +kernel)) (iR_top _) (by decide +kernel)
        refine lv_iload_n hx hb dX2_beginsStatement_21 rfl (lv_at hl 0 rfl) ?_
        refine lv_sipush (v := 314) hx hb dX2_beginsStatement_22 (by decide +kernel) ?_
        refine lv_icmp_gt (tgt := 32) hx hb dX2_beginsStatement_25 (by decide) (fun c_25 => ?_) (fun c_25 => ?_)
        · have c_25 : 314 < x0 := c_25
          have f_32_2 : iR x0 315 2147483647 := iR_ltR c_25 (iR_c (n := 314) (a := 314) (b := 314) (by decide +kernel) (by decide +kernel)) f_21_1 (by decide +kernel)
          refine lv_iconst (v := 0) hx hb dX2_beginsStatement_32 (by decide +kernel) ?_
          exact k_ri B hP hD hS dX2_beginsStatement_33 () [] rfl rfl rfl (Nat.le_of_ble_eq_true rfl) (Nat.le_of_ble_eq_true rfl) ⟨(show iR 0 0 1 from (iR_c (n := 0) (a := 0) (b := 1) (by decide +kernel) (by decide +kernel))), (show 0 = bI (bgn x0) from (bI_0 (decide_eq_false (fun q9 => q9.elim (fun q9 => c_4 q9) (fun q9 => q9.elim (fun q9 => c_11 q9) (fun q9 => i_lenl q9.2 c_25))))))⟩
        · have c_25 : x0 ≤ 314 := i_nlt c_25
          have f_28_2 : iR x0 309 314 := iR_leL c_25 f_21_1 (iR_c (n := 314) (a := 314) (b := 314) (by decide +kernel) (by decide +kernel)) (by decide +kernel)
          refine lv_iconst (v := 1) hx hb dX2_beginsStatement_28 (by decide +kernel) ?_
          refine lv_goto (tgt := 33) hx hb dX2_beginsStatement_29 (by decide) ?_
          exact k_ri B hP hD hS dX2_beginsStatement_33 () [] rfl rfl rfl (Nat.le_of_ble_eq_true rfl) (Nat.le_of_ble_eq_true rfl) ⟨(show iR 1 0 1 from (iR_c (n := 1) (a := 0) (b := 1) (by decide +kernel) (by decide +kernel))), (show 1 = bI (bgn x0) from (bI_1 (decide_eq_true (Or.inr (Or.inr ⟨c_18, c_25⟩)))))⟩
set_option maxHeartbeats 8000000 in
set_option maxRecDepth 100000 in
theorem s_X2_codeOf_v0 (l : Launch) (dC : Nat → ClassId) (dI : Nat → Nat → Nat) (cI cJ cZ cM : ClassId) (x0 : Int32) (hx0 : iR x0 310 310) : k_Mi l yX2_codeOf wsX2_codeOf ({ frames := 1, cells := 0, slots := 0, locals := 40 }) (dC, dI) vwCl (tyy cI cJ cZ cM) [] [.int x0] 0 0 (fun (u9 : Unit) => []) (fun (r9 : Int32) (u9 : Unit) => (r9 = 0)) := by
  refine fun sz => k_enter (cc := cX2_codeOf) (maxL := 1) (ret := some (.int)) (Qc := fun A => va_Qi (fun (r9 : Int32) (u9 : Unit) => (r9 = 0)) (fun u => k_B (dC, dI) vwCl (tyy cI cJ cZ cM) A ((fun (u9 : Unit) => []) u)) A) sz (by decide +kernel) rfl (Nat.le_of_ble_eq_true rfl) (fun p e s m args below meth c A ls H locs B hP hD hS hl => ?_)
  obtain ⟨hx, hb, hml, hown, hts, hr, hlk, hnm, hK, hA, hN, hC⟩ := id B
  have hown : s.vm.findClass RX2 = some m.cls := hown
  have hl : lv_has ls 1 [(0, .int x0)] := hl
  refine lv_iload_n hx hb dX2_codeOf_0 rfl (lv_at hl 0 rfl) ?_
  refine lv_sipush (v := 310) hx hb dX2_codeOf_1 (by decide +kernel) ?_
  refine lv_icmp_ne (tgt := 11) hx hb dX2_codeOf_4 (by decide) (fun c_4 => ?_) (fun c_4 => ?_)
  · exact absurd (i_eqc hx0 (iR_c (n := 310) (a := 310) (b := 310) (by decide +kernel) (by decide +kernel))) c_4
  · have c_4 : x0 = 310 := c_4
    refine lv_iconst (v := 0) hx hb dX2_codeOf_7 (by decide +kernel) ?_
    refine lv_goto (tgt := 23) hx hb dX2_codeOf_8 (by decide) ?_
    exact k_ri B hP hD hS dX2_codeOf_23 () [] rfl rfl rfl (Nat.le_of_ble_eq_true rfl) (Nat.le_of_ble_eq_true rfl) rfl
set_option maxHeartbeats 8000000 in
set_option maxRecDepth 100000 in
theorem s_X2_codeOf_v1 (l : Launch) (dC : Nat → ClassId) (dI : Nat → Nat → Nat) (cI cJ cZ cM : ClassId) (x0 : Int32) (hx0 : iR x0 311 311) : k_Mi l yX2_codeOf wsX2_codeOf ({ frames := 1, cells := 0, slots := 0, locals := 40 }) (dC, dI) vwCl (tyy cI cJ cZ cM) [] [.int x0] 0 0 (fun (u9 : Unit) => []) (fun (r9 : Int32) (u9 : Unit) => (r9 = 1)) := by
  refine fun sz => k_enter (cc := cX2_codeOf) (maxL := 1) (ret := some (.int)) (Qc := fun A => va_Qi (fun (r9 : Int32) (u9 : Unit) => (r9 = 1)) (fun u => k_B (dC, dI) vwCl (tyy cI cJ cZ cM) A ((fun (u9 : Unit) => []) u)) A) sz (by decide +kernel) rfl (Nat.le_of_ble_eq_true rfl) (fun p e s m args below meth c A ls H locs B hP hD hS hl => ?_)
  obtain ⟨hx, hb, hml, hown, hts, hr, hlk, hnm, hK, hA, hN, hC⟩ := id B
  have hown : s.vm.findClass RX2 = some m.cls := hown
  have hl : lv_has ls 1 [(0, .int x0)] := hl
  refine lv_iload_n hx hb dX2_codeOf_0 rfl (lv_at hl 0 rfl) ?_
  refine lv_sipush (v := 310) hx hb dX2_codeOf_1 (by decide +kernel) ?_
  refine lv_icmp_ne (tgt := 11) hx hb dX2_codeOf_4 (by decide) (fun c_4 => ?_) (fun c_4 => ?_)
  · have c_4 : ¬ x0 = 310 := c_4
    refine lv_iload_n hx hb dX2_codeOf_11 rfl (lv_at hl 0 rfl) ?_
    refine lv_sipush (v := 311) hx hb dX2_codeOf_12 (by decide +kernel) ?_
    refine lv_icmp_ne (tgt := 22) hx hb dX2_codeOf_15 (by decide) (fun c_15 => ?_) (fun c_15 => ?_)
    · exact absurd (i_eqc hx0 (iR_c (n := 311) (a := 311) (b := 311) (by decide +kernel) (by decide +kernel))) c_15
    · have c_15 : x0 = 311 := c_15
      refine lv_iconst (v := 1) hx hb dX2_codeOf_18 (by decide +kernel) ?_
      refine lv_goto (tgt := 23) hx hb dX2_codeOf_19 (by decide) ?_
      exact k_ri B hP hD hS dX2_codeOf_23 () [] rfl rfl rfl (Nat.le_of_ble_eq_true rfl) (Nat.le_of_ble_eq_true rfl) rfl
  · exact iR_cl (iR_eqL (a' := 311) (b' := 310) c_4 hx0 (iR_c (n := 310) (a := 310) (b := 310) (by decide +kernel) (by decide +kernel)) (by decide +kernel)) (by decide +kernel)
set_option maxHeartbeats 8000000 in
set_option maxRecDepth 100000 in
theorem s_X2_codeOf_v2 (l : Launch) (dC : Nat → ClassId) (dI : Nat → Nat → Nat) (cI cJ cZ cM : ClassId) (x0 : Int32) (hx0 : iR x0 312 312) : k_Mi l yX2_codeOf wsX2_codeOf ({ frames := 1, cells := 0, slots := 0, locals := 40 }) (dC, dI) vwCl (tyy cI cJ cZ cM) [] [.int x0] 0 0 (fun (u9 : Unit) => []) (fun (r9 : Int32) (u9 : Unit) => (r9 = 2)) := by
  refine fun sz => k_enter (cc := cX2_codeOf) (maxL := 1) (ret := some (.int)) (Qc := fun A => va_Qi (fun (r9 : Int32) (u9 : Unit) => (r9 = 2)) (fun u => k_B (dC, dI) vwCl (tyy cI cJ cZ cM) A ((fun (u9 : Unit) => []) u)) A) sz (by decide +kernel) rfl (Nat.le_of_ble_eq_true rfl) (fun p e s m args below meth c A ls H locs B hP hD hS hl => ?_)
  obtain ⟨hx, hb, hml, hown, hts, hr, hlk, hnm, hK, hA, hN, hC⟩ := id B
  have hown : s.vm.findClass RX2 = some m.cls := hown
  have hl : lv_has ls 1 [(0, .int x0)] := hl
  refine lv_iload_n hx hb dX2_codeOf_0 rfl (lv_at hl 0 rfl) ?_
  refine lv_sipush (v := 310) hx hb dX2_codeOf_1 (by decide +kernel) ?_
  refine lv_icmp_ne (tgt := 11) hx hb dX2_codeOf_4 (by decide) (fun c_4 => ?_) (fun c_4 => ?_)
  · have c_4 : ¬ x0 = 310 := c_4
    refine lv_iload_n hx hb dX2_codeOf_11 rfl (lv_at hl 0 rfl) ?_
    refine lv_sipush (v := 311) hx hb dX2_codeOf_12 (by decide +kernel) ?_
    refine lv_icmp_ne (tgt := 22) hx hb dX2_codeOf_15 (by decide) (fun c_15 => ?_) (fun c_15 => ?_)
    · have c_15 : ¬ x0 = 311 := c_15
      refine lv_iconst (v := 2) hx hb dX2_codeOf_22 (by decide +kernel) ?_
      exact k_ri B hP hD hS dX2_codeOf_23 () [] rfl rfl rfl (Nat.le_of_ble_eq_true rfl) (Nat.le_of_ble_eq_true rfl) rfl
    · exact iR_cl (iR_eqL (a' := 312) (b' := 311) c_15 hx0 (iR_c (n := 311) (a := 311) (b := 311) (by decide +kernel) (by decide +kernel)) (by decide +kernel)) (by decide +kernel)
  · exact iR_cl (iR_eqL (a' := 312) (b' := 310) c_4 hx0 (iR_c (n := 310) (a := 310) (b := 310) (by decide +kernel) (by decide +kernel)) (by decide +kernel)) (by decide +kernel)
set_option maxHeartbeats 8000000 in
set_option maxRecDepth 100000 in
theorem s_X5_tells_v3 (l : Launch) (dC : Nat → ClassId) (dI : Nat → Nat → Nat) (cI cJ cZ cM : ClassId) (a0 : Nat) (b0_0 : Nat) (b0_1 : Nat) (b0_2 : Nat) (b0_3 : Nat) (b0_4 : Nat) (b0_5 : Nat) (b0_6 : Nat) (b0_7 : Nat) (b0_8 : Nat) (a0_9 : Nat) (f0_9 : Nat → Int32) (a0_10 : Nat) (f0_10 : Nat → Int32) (b0_11 : Nat) (v0_12 : Int32) (v0_13 : Int32) (v0_14 : Int32) (v0_15 : Int32) (v0_16 : Int32) (v0_17 : Int32) (v0_18 : Int32) (v0_19 : Int32) (hv0_12 : iR v0_12 0 1600) (hv0_13 : iR v0_13 0 10) (hv0_14 : iR v0_14 0 12) (hv0_19 : iR v0_19 0 80) (hf0_9 : aR f0_9 0 1600) (hf0_10 : aR f0_10 0 1600) : k_Mi l yX5_tells wsX5_tells ({ frames := 1, cells := 0, slots := 0, locals := 40 }) (dC, dI) vwCl (tyy cI cJ cZ cM) [(a0, .inr (5, [.ref b0_0, .ref b0_1, .ref b0_2, .ref b0_3, .ref b0_4, .ref b0_5, .ref b0_6, .ref b0_7, .ref b0_8, .ref a0_9, .ref a0_10, .ref b0_11, .int v0_12, .int v0_13, .int v0_14, .int v0_15, .int v0_16, .int v0_17, .int v0_18, .int v0_19])), (a0_9, .inl (cI, 3, .inl f0_9)), (a0_10, .inl (cI, 3, .inl f0_10))] [.ref a0, .int 0] 0 0 (fun (u9 : Unit) => [(a0, .inr (5, [.ref b0_0, .ref b0_1, .ref b0_2, .ref b0_3, .ref b0_4, .ref b0_5, .ref b0_6, .ref b0_7, .ref b0_8, .ref a0_9, .ref a0_10, .ref b0_11, .int v0_12, .int v0_13, .int v0_14, .int v0_15, .int v0_16, .int v0_17, .int v0_18, .int v0_19])), (a0_9, .inl (cI, 3, .inl f0_9)), (a0_10, .inl (cI, 3, .inl f0_10))]) (fun (r9 : Int32) (u9 : Unit) => (iR r9 0 1) ∧ (r9 = bI (decide (f0_9 0 < f0_10 0)))) := by
  refine fun sz => k_enter (cc := cX5_tells) (maxL := 2) (ret := some (.boolean)) (Qc := fun A => va_Qi (fun (r9 : Int32) (u9 : Unit) => (iR r9 0 1) ∧ (r9 = bI (decide (f0_9 0 < f0_10 0)))) (fun u => k_B (dC, dI) vwCl (tyy cI cJ cZ cM) A ((fun (u9 : Unit) => [(a0, .inr (5, [.ref b0_0, .ref b0_1, .ref b0_2, .ref b0_3, .ref b0_4, .ref b0_5, .ref b0_6, .ref b0_7, .ref b0_8, .ref a0_9, .ref a0_10, .ref b0_11, .int v0_12, .int v0_13, .int v0_14, .int v0_15, .int v0_16, .int v0_17, .int v0_18, .int v0_19])), (a0_9, .inl (cI, 3, .inl f0_9)), (a0_10, .inl (cI, 3, .inl f0_10))]) u)) A) sz (by decide +kernel) rfl (Nat.le_of_ble_eq_true rfl) (fun p e s m args below meth c A ls H locs B hP hD hS hl => ?_)
  obtain ⟨hx, hb, hml, hown, hts, hr, hlk, hnm, hK, hA, hN, hC⟩ := id B
  have hown : s.vm.findClass RX5 = some m.cls := hown
  have hl : lv_has ls 2 [(0, .ref a0), (1, .int 0)] := hl
  have w_0 : (Cond.fieldLink RX5 42 "WishSea$Shore" "codeTo" "[I").before args s = true := hts _ (List.mem_of_getElem? (i := 1) rfl)
  have w_1 : (Cond.fieldLink RX5 39 "WishSea$Shore" "codeFrom" "[I").before args s = true := hts _ (List.mem_of_getElem? (i := 2) rfl)
  have hinX5 : ∀ w ∈ u_ws RX5 TX5 20, w ∈ wsX5_tells := fun _ h => List.mem_cons_of_mem _ (List.mem_append_right _ h)
  refine lv_iload_n hx hb dX5_tells_0 rfl (lv_at hl 1 rfl) ?_
  refine lv_if_lt (tgt := 32) hx hb dX5_tells_1 (by decide) (fun q9 => absurd q9 (by decide +kernel)) (fun _ => ?_)
  refine lv_iload_n hx hb dX5_tells_4 rfl (lv_at hl 1 rfl) ?_
  refine lv_aload_n hx hb dX5_tells_5 rfl (lv_at hl 0 rfl) ?_
  refine k_get (D := (dC, dI)) (ci := 5) (v := .ref a0_10) (C := RX5) (T := TX5) (N := 20) hx hb hts hinX5 hown hK hP 0 rfl rfl 10 (by decide) w_0 rfl rfl dX5_tells_6 ?_
  refine va_alen (v := 3) hx hb hK hP 2 0 rfl rfl rfl dX5_tells_9 ?_
  refine lv_icmp_ge (tgt := 32) hx hb dX5_tells_10 (by decide) (fun q9 => absurd q9 (by decide +kernel)) (fun _ => ?_)
  refine lv_aload_n hx hb dX5_tells_13 rfl (lv_at hl 0 rfl) ?_
  refine k_get (D := (dC, dI)) (ci := 5) (v := .ref a0_10) (C := RX5) (T := TX5) (N := 20) hx hb hts hinX5 hown hK hP 0 rfl rfl 10 (by decide) w_0 rfl rfl dX5_tells_14 ?_
  refine lv_iload_n hx hb dX5_tells_17 rfl (lv_at hl 1 rfl) ?_
  refine k_iald (v := (f0_10 0)) hx hb hK hP 2 0 0 rfl rfl rfl (Nat.le_of_ble_eq_true rfl) (Nat.le_of_ble_eq_true rfl) rfl dX5_tells_18 ?_
  have f_18_1 : iR (f0_10 0) 0 1600 := hf0_10 _
  refine lv_aload_n hx hb dX5_tells_19 rfl (lv_at hl 0 rfl) ?_
  refine k_get (D := (dC, dI)) (ci := 5) (v := .ref a0_9) (C := RX5) (T := TX5) (N := 20) hx hb hts hinX5 hown hK hP 0 rfl rfl 9 (by decide) w_1 rfl rfl dX5_tells_20 ?_
  refine lv_iload_n hx hb dX5_tells_23 rfl (lv_at hl 1 rfl) ?_
  refine k_iald (v := (f0_9 0)) hx hb hK hP 1 0 0 rfl rfl rfl (Nat.le_of_ble_eq_true rfl) (Nat.le_of_ble_eq_true rfl) rfl dX5_tells_24 ?_
  have f_24_2 : iR (f0_9 0) 0 1600 := hf0_9 _
  refine lv_icmp_le (tgt := 32) hx hb dX5_tells_25 (by decide) (fun c_25 => ?_) (fun c_25 => ?_)
  · have c_25 : (f0_10 0) ≤ (f0_9 0) := c_25
    refine lv_iconst (v := 0) hx hb dX5_tells_32 (by decide +kernel) ?_
    exact k_ri B hP hD hS dX5_tells_33 () [0, 1, 2] rfl rfl rfl (Nat.le_of_ble_eq_true rfl) (Nat.le_of_ble_eq_true rfl) ⟨(show iR 0 0 1 from (iR_c (n := 0) (a := 0) (b := 1) (by decide +kernel) (by decide +kernel))), (show 0 = bI (decide (f0_9 0 < f0_10 0)) from (bI_0 (decide_eq_false (i_lenl c_25))))⟩
  · have c_25 : (f0_9 0) < (f0_10 0) := i_nle c_25
    have f_28_3 : iR (f0_9 0) 0 1599 := iR_ltL c_25 f_24_2 f_18_1 (by decide +kernel)
    have f_28_4 : iR (f0_10 0) 1 1600 := iR_ltR c_25 f_24_2 f_18_1 (by decide +kernel)
    refine lv_iconst (v := 1) hx hb dX5_tells_28 (by decide +kernel) ?_
    refine lv_goto (tgt := 33) hx hb dX5_tells_29 (by decide) ?_
    exact k_ri B hP hD hS dX5_tells_33 () [0, 1, 2] rfl rfl rfl (Nat.le_of_ble_eq_true rfl) (Nat.le_of_ble_eq_true rfl) ⟨(show iR 1 0 1 from (iR_c (n := 1) (a := 0) (b := 1) (by decide +kernel) (by decide +kernel))), (show 1 = bI (decide (f0_9 0 < f0_10 0)) from (bI_1 (decide_eq_true c_25)))⟩
set_option maxHeartbeats 8000000 in
set_option maxRecDepth 100000 in
theorem s_X5_tells_v4 (l : Launch) (dC : Nat → ClassId) (dI : Nat → Nat → Nat) (cI cJ cZ cM : ClassId) (a0 : Nat) (b0_0 : Nat) (b0_1 : Nat) (b0_2 : Nat) (b0_3 : Nat) (b0_4 : Nat) (b0_5 : Nat) (b0_6 : Nat) (b0_7 : Nat) (b0_8 : Nat) (a0_9 : Nat) (f0_9 : Nat → Int32) (a0_10 : Nat) (f0_10 : Nat → Int32) (b0_11 : Nat) (v0_12 : Int32) (v0_13 : Int32) (v0_14 : Int32) (v0_15 : Int32) (v0_16 : Int32) (v0_17 : Int32) (v0_18 : Int32) (v0_19 : Int32) (hv0_12 : iR v0_12 0 1600) (hv0_13 : iR v0_13 0 10) (hv0_14 : iR v0_14 0 12) (hv0_19 : iR v0_19 0 80) (hf0_9 : aR f0_9 0 1600) (hf0_10 : aR f0_10 0 1600) : k_Mi l yX5_tells wsX5_tells ({ frames := 1, cells := 0, slots := 0, locals := 40 }) (dC, dI) vwCl (tyy cI cJ cZ cM) [(a0, .inr (5, [.ref b0_0, .ref b0_1, .ref b0_2, .ref b0_3, .ref b0_4, .ref b0_5, .ref b0_6, .ref b0_7, .ref b0_8, .ref a0_9, .ref a0_10, .ref b0_11, .int v0_12, .int v0_13, .int v0_14, .int v0_15, .int v0_16, .int v0_17, .int v0_18, .int v0_19])), (a0_9, .inl (cI, 3, .inl f0_9)), (a0_10, .inl (cI, 3, .inl f0_10))] [.ref a0, .int 1] 0 0 (fun (u9 : Unit) => [(a0, .inr (5, [.ref b0_0, .ref b0_1, .ref b0_2, .ref b0_3, .ref b0_4, .ref b0_5, .ref b0_6, .ref b0_7, .ref b0_8, .ref a0_9, .ref a0_10, .ref b0_11, .int v0_12, .int v0_13, .int v0_14, .int v0_15, .int v0_16, .int v0_17, .int v0_18, .int v0_19])), (a0_9, .inl (cI, 3, .inl f0_9)), (a0_10, .inl (cI, 3, .inl f0_10))]) (fun (r9 : Int32) (u9 : Unit) => (iR r9 0 1) ∧ (r9 = bI (decide (f0_9 1 < f0_10 1)))) := by
  refine fun sz => k_enter (cc := cX5_tells) (maxL := 2) (ret := some (.boolean)) (Qc := fun A => va_Qi (fun (r9 : Int32) (u9 : Unit) => (iR r9 0 1) ∧ (r9 = bI (decide (f0_9 1 < f0_10 1)))) (fun u => k_B (dC, dI) vwCl (tyy cI cJ cZ cM) A ((fun (u9 : Unit) => [(a0, .inr (5, [.ref b0_0, .ref b0_1, .ref b0_2, .ref b0_3, .ref b0_4, .ref b0_5, .ref b0_6, .ref b0_7, .ref b0_8, .ref a0_9, .ref a0_10, .ref b0_11, .int v0_12, .int v0_13, .int v0_14, .int v0_15, .int v0_16, .int v0_17, .int v0_18, .int v0_19])), (a0_9, .inl (cI, 3, .inl f0_9)), (a0_10, .inl (cI, 3, .inl f0_10))]) u)) A) sz (by decide +kernel) rfl (Nat.le_of_ble_eq_true rfl) (fun p e s m args below meth c A ls H locs B hP hD hS hl => ?_)
  obtain ⟨hx, hb, hml, hown, hts, hr, hlk, hnm, hK, hA, hN, hC⟩ := id B
  have hown : s.vm.findClass RX5 = some m.cls := hown
  have hl : lv_has ls 2 [(0, .ref a0), (1, .int 1)] := hl
  have w_0 : (Cond.fieldLink RX5 42 "WishSea$Shore" "codeTo" "[I").before args s = true := hts _ (List.mem_of_getElem? (i := 1) rfl)
  have w_1 : (Cond.fieldLink RX5 39 "WishSea$Shore" "codeFrom" "[I").before args s = true := hts _ (List.mem_of_getElem? (i := 2) rfl)
  have hinX5 : ∀ w ∈ u_ws RX5 TX5 20, w ∈ wsX5_tells := fun _ h => List.mem_cons_of_mem _ (List.mem_append_right _ h)
  refine lv_iload_n hx hb dX5_tells_0 rfl (lv_at hl 1 rfl) ?_
  refine lv_if_lt (tgt := 32) hx hb dX5_tells_1 (by decide) (fun q9 => absurd q9 (by decide +kernel)) (fun _ => ?_)
  refine lv_iload_n hx hb dX5_tells_4 rfl (lv_at hl 1 rfl) ?_
  refine lv_aload_n hx hb dX5_tells_5 rfl (lv_at hl 0 rfl) ?_
  refine k_get (D := (dC, dI)) (ci := 5) (v := .ref a0_10) (C := RX5) (T := TX5) (N := 20) hx hb hts hinX5 hown hK hP 0 rfl rfl 10 (by decide) w_0 rfl rfl dX5_tells_6 ?_
  refine va_alen (v := 3) hx hb hK hP 2 0 rfl rfl rfl dX5_tells_9 ?_
  refine lv_icmp_ge (tgt := 32) hx hb dX5_tells_10 (by decide) (fun q9 => absurd q9 (by decide +kernel)) (fun _ => ?_)
  refine lv_aload_n hx hb dX5_tells_13 rfl (lv_at hl 0 rfl) ?_
  refine k_get (D := (dC, dI)) (ci := 5) (v := .ref a0_10) (C := RX5) (T := TX5) (N := 20) hx hb hts hinX5 hown hK hP 0 rfl rfl 10 (by decide) w_0 rfl rfl dX5_tells_14 ?_
  refine lv_iload_n hx hb dX5_tells_17 rfl (lv_at hl 1 rfl) ?_
  refine k_iald (v := (f0_10 1)) hx hb hK hP 2 0 1 rfl rfl rfl (Nat.le_of_ble_eq_true rfl) (Nat.le_of_ble_eq_true rfl) rfl dX5_tells_18 ?_
  have f_18_1 : iR (f0_10 1) 0 1600 := hf0_10 _
  refine lv_aload_n hx hb dX5_tells_19 rfl (lv_at hl 0 rfl) ?_
  refine k_get (D := (dC, dI)) (ci := 5) (v := .ref a0_9) (C := RX5) (T := TX5) (N := 20) hx hb hts hinX5 hown hK hP 0 rfl rfl 9 (by decide) w_1 rfl rfl dX5_tells_20 ?_
  refine lv_iload_n hx hb dX5_tells_23 rfl (lv_at hl 1 rfl) ?_
  refine k_iald (v := (f0_9 1)) hx hb hK hP 1 0 1 rfl rfl rfl (Nat.le_of_ble_eq_true rfl) (Nat.le_of_ble_eq_true rfl) rfl dX5_tells_24 ?_
  have f_24_2 : iR (f0_9 1) 0 1600 := hf0_9 _
  refine lv_icmp_le (tgt := 32) hx hb dX5_tells_25 (by decide) (fun c_25 => ?_) (fun c_25 => ?_)
  · have c_25 : (f0_10 1) ≤ (f0_9 1) := c_25
    refine lv_iconst (v := 0) hx hb dX5_tells_32 (by decide +kernel) ?_
    exact k_ri B hP hD hS dX5_tells_33 () [0, 1, 2] rfl rfl rfl (Nat.le_of_ble_eq_true rfl) (Nat.le_of_ble_eq_true rfl) ⟨(show iR 0 0 1 from (iR_c (n := 0) (a := 0) (b := 1) (by decide +kernel) (by decide +kernel))), (show 0 = bI (decide (f0_9 1 < f0_10 1)) from (bI_0 (decide_eq_false (i_lenl c_25))))⟩
  · have c_25 : (f0_9 1) < (f0_10 1) := i_nle c_25
    have f_28_3 : iR (f0_9 1) 0 1599 := iR_ltL c_25 f_24_2 f_18_1 (by decide +kernel)
    have f_28_4 : iR (f0_10 1) 1 1600 := iR_ltR c_25 f_24_2 f_18_1 (by decide +kernel)
    refine lv_iconst (v := 1) hx hb dX5_tells_28 (by decide +kernel) ?_
    refine lv_goto (tgt := 33) hx hb dX5_tells_29 (by decide) ?_
    exact k_ri B hP hD hS dX5_tells_33 () [0, 1, 2] rfl rfl rfl (Nat.le_of_ble_eq_true rfl) (Nat.le_of_ble_eq_true rfl) ⟨(show iR 1 0 1 from (iR_c (n := 1) (a := 0) (b := 1) (by decide +kernel) (by decide +kernel))), (show 1 = bI (decide (f0_9 1 < f0_10 1)) from (bI_1 (decide_eq_true c_25)))⟩
set_option maxHeartbeats 8000000 in
set_option maxRecDepth 100000 in
theorem s_X5_tells_v5 (l : Launch) (dC : Nat → ClassId) (dI : Nat → Nat → Nat) (cI cJ cZ cM : ClassId) (a0 : Nat) (b0_0 : Nat) (b0_1 : Nat) (b0_2 : Nat) (b0_3 : Nat) (b0_4 : Nat) (b0_5 : Nat) (b0_6 : Nat) (b0_7 : Nat) (b0_8 : Nat) (a0_9 : Nat) (f0_9 : Nat → Int32) (a0_10 : Nat) (f0_10 : Nat → Int32) (b0_11 : Nat) (v0_12 : Int32) (v0_13 : Int32) (v0_14 : Int32) (v0_15 : Int32) (v0_16 : Int32) (v0_17 : Int32) (v0_18 : Int32) (v0_19 : Int32) (hv0_12 : iR v0_12 0 1600) (hv0_13 : iR v0_13 0 10) (hv0_14 : iR v0_14 0 12) (hv0_19 : iR v0_19 0 80) (hf0_9 : aR f0_9 0 1600) (hf0_10 : aR f0_10 0 1600) : k_Mi l yX5_tells wsX5_tells ({ frames := 1, cells := 0, slots := 0, locals := 40 }) (dC, dI) vwCl (tyy cI cJ cZ cM) [(a0, .inr (5, [.ref b0_0, .ref b0_1, .ref b0_2, .ref b0_3, .ref b0_4, .ref b0_5, .ref b0_6, .ref b0_7, .ref b0_8, .ref a0_9, .ref a0_10, .ref b0_11, .int v0_12, .int v0_13, .int v0_14, .int v0_15, .int v0_16, .int v0_17, .int v0_18, .int v0_19])), (a0_9, .inl (cI, 3, .inl f0_9)), (a0_10, .inl (cI, 3, .inl f0_10))] [.ref a0, .int 2] 0 0 (fun (u9 : Unit) => [(a0, .inr (5, [.ref b0_0, .ref b0_1, .ref b0_2, .ref b0_3, .ref b0_4, .ref b0_5, .ref b0_6, .ref b0_7, .ref b0_8, .ref a0_9, .ref a0_10, .ref b0_11, .int v0_12, .int v0_13, .int v0_14, .int v0_15, .int v0_16, .int v0_17, .int v0_18, .int v0_19])), (a0_9, .inl (cI, 3, .inl f0_9)), (a0_10, .inl (cI, 3, .inl f0_10))]) (fun (r9 : Int32) (u9 : Unit) => (iR r9 0 1) ∧ (r9 = bI (decide (f0_9 2 < f0_10 2)))) := by
  refine fun sz => k_enter (cc := cX5_tells) (maxL := 2) (ret := some (.boolean)) (Qc := fun A => va_Qi (fun (r9 : Int32) (u9 : Unit) => (iR r9 0 1) ∧ (r9 = bI (decide (f0_9 2 < f0_10 2)))) (fun u => k_B (dC, dI) vwCl (tyy cI cJ cZ cM) A ((fun (u9 : Unit) => [(a0, .inr (5, [.ref b0_0, .ref b0_1, .ref b0_2, .ref b0_3, .ref b0_4, .ref b0_5, .ref b0_6, .ref b0_7, .ref b0_8, .ref a0_9, .ref a0_10, .ref b0_11, .int v0_12, .int v0_13, .int v0_14, .int v0_15, .int v0_16, .int v0_17, .int v0_18, .int v0_19])), (a0_9, .inl (cI, 3, .inl f0_9)), (a0_10, .inl (cI, 3, .inl f0_10))]) u)) A) sz (by decide +kernel) rfl (Nat.le_of_ble_eq_true rfl) (fun p e s m args below meth c A ls H locs B hP hD hS hl => ?_)
  obtain ⟨hx, hb, hml, hown, hts, hr, hlk, hnm, hK, hA, hN, hC⟩ := id B
  have hown : s.vm.findClass RX5 = some m.cls := hown
  have hl : lv_has ls 2 [(0, .ref a0), (1, .int 2)] := hl
  have w_0 : (Cond.fieldLink RX5 42 "WishSea$Shore" "codeTo" "[I").before args s = true := hts _ (List.mem_of_getElem? (i := 1) rfl)
  have w_1 : (Cond.fieldLink RX5 39 "WishSea$Shore" "codeFrom" "[I").before args s = true := hts _ (List.mem_of_getElem? (i := 2) rfl)
  have hinX5 : ∀ w ∈ u_ws RX5 TX5 20, w ∈ wsX5_tells := fun _ h => List.mem_cons_of_mem _ (List.mem_append_right _ h)
  refine lv_iload_n hx hb dX5_tells_0 rfl (lv_at hl 1 rfl) ?_
  refine lv_if_lt (tgt := 32) hx hb dX5_tells_1 (by decide) (fun q9 => absurd q9 (by decide +kernel)) (fun _ => ?_)
  refine lv_iload_n hx hb dX5_tells_4 rfl (lv_at hl 1 rfl) ?_
  refine lv_aload_n hx hb dX5_tells_5 rfl (lv_at hl 0 rfl) ?_
  refine k_get (D := (dC, dI)) (ci := 5) (v := .ref a0_10) (C := RX5) (T := TX5) (N := 20) hx hb hts hinX5 hown hK hP 0 rfl rfl 10 (by decide) w_0 rfl rfl dX5_tells_6 ?_
  refine va_alen (v := 3) hx hb hK hP 2 0 rfl rfl rfl dX5_tells_9 ?_
  refine lv_icmp_ge (tgt := 32) hx hb dX5_tells_10 (by decide) (fun q9 => absurd q9 (by decide +kernel)) (fun _ => ?_)
  refine lv_aload_n hx hb dX5_tells_13 rfl (lv_at hl 0 rfl) ?_
  refine k_get (D := (dC, dI)) (ci := 5) (v := .ref a0_10) (C := RX5) (T := TX5) (N := 20) hx hb hts hinX5 hown hK hP 0 rfl rfl 10 (by decide) w_0 rfl rfl dX5_tells_14 ?_
  refine lv_iload_n hx hb dX5_tells_17 rfl (lv_at hl 1 rfl) ?_
  refine k_iald (v := (f0_10 2)) hx hb hK hP 2 0 2 rfl rfl rfl (Nat.le_of_ble_eq_true rfl) (Nat.le_of_ble_eq_true rfl) rfl dX5_tells_18 ?_
  have f_18_1 : iR (f0_10 2) 0 1600 := hf0_10 _
  refine lv_aload_n hx hb dX5_tells_19 rfl (lv_at hl 0 rfl) ?_
  refine k_get (D := (dC, dI)) (ci := 5) (v := .ref a0_9) (C := RX5) (T := TX5) (N := 20) hx hb hts hinX5 hown hK hP 0 rfl rfl 9 (by decide) w_1 rfl rfl dX5_tells_20 ?_
  refine lv_iload_n hx hb dX5_tells_23 rfl (lv_at hl 1 rfl) ?_
  refine k_iald (v := (f0_9 2)) hx hb hK hP 1 0 2 rfl rfl rfl (Nat.le_of_ble_eq_true rfl) (Nat.le_of_ble_eq_true rfl) rfl dX5_tells_24 ?_
  have f_24_2 : iR (f0_9 2) 0 1600 := hf0_9 _
  refine lv_icmp_le (tgt := 32) hx hb dX5_tells_25 (by decide) (fun c_25 => ?_) (fun c_25 => ?_)
  · have c_25 : (f0_10 2) ≤ (f0_9 2) := c_25
    refine lv_iconst (v := 0) hx hb dX5_tells_32 (by decide +kernel) ?_
    exact k_ri B hP hD hS dX5_tells_33 () [0, 1, 2] rfl rfl rfl (Nat.le_of_ble_eq_true rfl) (Nat.le_of_ble_eq_true rfl) ⟨(show iR 0 0 1 from (iR_c (n := 0) (a := 0) (b := 1) (by decide +kernel) (by decide +kernel))), (show 0 = bI (decide (f0_9 2 < f0_10 2)) from (bI_0 (decide_eq_false (i_lenl c_25))))⟩
  · have c_25 : (f0_9 2) < (f0_10 2) := i_nle c_25
    have f_28_3 : iR (f0_9 2) 0 1599 := iR_ltL c_25 f_24_2 f_18_1 (by decide +kernel)
    have f_28_4 : iR (f0_10 2) 1 1600 := iR_ltR c_25 f_24_2 f_18_1 (by decide +kernel)
    refine lv_iconst (v := 1) hx hb dX5_tells_28 (by decide +kernel) ?_
    refine lv_goto (tgt := 33) hx hb dX5_tells_29 (by decide) ?_
    exact k_ri B hP hD hS dX5_tells_33 () [0, 1, 2] rfl rfl rfl (Nat.le_of_ble_eq_true rfl) (Nat.le_of_ble_eq_true rfl) ⟨(show iR 1 0 1 from (iR_c (n := 1) (a := 0) (b := 1) (by decide +kernel) (by decide +kernel))), (show 1 = bI (decide (f0_9 2 < f0_10 2)) from (bI_1 (decide_eq_true c_25)))⟩
set_option maxHeartbeats 8000000 in
set_option maxRecDepth 100000 in
theorem s_X2_indexOf_v0 (l : Launch) (dC : Nat → ClassId) (dI : Nat → Nat → Nat) (cI cJ cZ cM : ClassId) (x0 : Int32) (a1 : Nat) (f1 : Nat → Int32) (x2 : Int32) (hx2 : iR x2 0 10) : k_Mi l yX2_indexOf wsX2_indexOf ({ frames := 1, cells := 0, slots := 0, locals := 40 }) (dC, dI) vwCl (tyy cI cJ cZ cM) [(a1, .inl (cI, 10, .inl f1))] [.int x0, .ref a1, .int x2] 0 0 (fun (u9 : Unit) => [(a1, .inl (cI, 10, .inl f1))]) (fun (r9 : Int32) (u9 : Unit) => (iR r9 (-1) 9) ∧ (IXI x2.toNatClampNeg f1 x0 r9)) := by
  refine fun sz => k_enter (cc := cX2_indexOf) (maxL := 4) (ret := some (.int)) (Qc := fun A => va_Qi (fun (r9 : Int32) (u9 : Unit) => (iR r9 (-1) 9) ∧ (IXI x2.toNatClampNeg f1 x0 r9)) (fun u => k_B (dC, dI) vwCl (tyy cI cJ cZ cM) A ((fun (u9 : Unit) => [(a1, .inl (cI, 10, .inl f1))]) u)) A) sz (by decide +kernel) rfl (Nat.le_of_ble_eq_true rfl) (fun p e s m args below meth c A ls H locs B hP hD hS hl => ?_)
  obtain ⟨hx, hb, hml, hown, hts, hr, hlk, hnm, hK, hA, hN, hC⟩ := id B
  have hown : s.vm.findClass RX2 = some m.cls := hown
  have hl : lv_has ls 4 [(0, .int x0), (1, .ref a1), (2, .int x2)] := hl
  refine lv_iconst (v := 0) hx hb dX2_indexOf_0 (by decide +kernel) ?_
  have J_2 : ∀ (n_2 : Nat) (j2_L3 : Int32) (hj2_L3 : iR j2_L3 0 10) (p2_0 : ∀ j, j < j2_L3.toNatClampNeg → ¬ f1 j = x0) (hm_2 : (10 - j2_L3.toInt).toNat < n_2) (H : Heap) (locs : List Loc) (ls : Array Slot), va_P (dC, dI) vwCl [(a1, .inl (cI, 10, .inl f1))] H → va_D A [(a1, .inl (cI, 10, .inl f1))] → va_S A s.heap H locs → lv_has ls 4 [(0, .int x0), (1, .ref a1), (2, .int x2), (3, .int j2_L3)] → W p l e ({ frames := 1, cells := 0, slots := 0, locals := 40 }) s m args below meth c H locs 0 0 (MQ below (va_Qi (fun (r9 : Int32) (u9 : Unit) => (iR r9 (-1) 9) ∧ (IXI x2.toNatClampNeg f1 x0 r9)) (fun u => k_B (dC, dI) vwCl (tyy cI cJ cZ cM) A ((fun (u9 : Unit) => [(a1, .inl (cI, 10, .inl f1))]) u)) A) args s 0 0 A) (F0 m 2 ls []) := by
    intro n_2
    induction n_2 with
    | zero => intro j2_L3 hj2_L3 p2_0 hm_2; exact absurd hm_2 (Nat.not_lt_zero _)
    | succ n_2 ih_2 =>
      intro j2_L3 hj2_L3 p2_0 hm_2 H locs ls hP hD hS hl
      refine lv_iload_n hx hb dX2_indexOf_2 rfl (lv_at hl 3 rfl) ?_
      refine lv_iload_n hx hb dX2_indexOf_3 rfl (lv_at hl 2 rfl) ?_
      refine lv_icmp_ge (tgt := 28) hx hb dX2_indexOf_4 (by decide) (fun c_4 => ?_) (fun c_4 => ?_)
      · have c_4 : x2 ≤ j2_L3 := c_4
        refine lv_iconst (v := (-1)) hx hb dX2_indexOf_28 (by decide +kernel) ?_
        exact k_ri B hP hD hS dX2_indexOf_29 () [0] rfl rfl rfl (Nat.le_of_ble_eq_true rfl) (Nat.le_of_ble_eq_true rfl) ⟨(show iR (-1) (-1) 9 from (iR_c (n := (-1)) (a := (-1)) (b := 9) (by decide +kernel) (by decide +kernel))), (show IXI x2.toNatClampNeg f1 x0 (-1) from (Or.inl ⟨rfl, fun j hj => p2_0 j (Nat.lt_of_lt_of_le hj (i_leN c_4 hx2 hj2_L3 (by decide +kernel)))⟩))⟩
      · have c_4 : j2_L3 < x2 := i_nle c_4
        have f_7_1 : iR j2_L3 0 9 := iR_ltL c_4 hj2_L3 hx2 (by decide +kernel)
        have f_7_2 : iR x2 1 10 := iR_ltR c_4 hj2_L3 hx2 (by decide +kernel)
        refine lv_iload_n hx hb dX2_indexOf_7 rfl (lv_at hl 3 rfl) ?_
        refine lv_aload_n hx hb dX2_indexOf_8 rfl (lv_at hl 1 rfl) ?_
        refine va_alen (v := 10) hx hb hK hP 0 0 rfl rfl rfl dX2_indexOf_9 ?_
        refine lv_icmp_ge (tgt := 28) hx hb dX2_indexOf_10 (by decide) (fun c_10 => ?_) (fun c_10 => ?_)
        · exact iR_cl (iR_leL (a' := 10) (b' := 9) c_10 (iR_c (n := 10) (a := 10) (b := 10) (by decide +kernel) (by decide +kernel)) f_7_1 (by decide +kernel)) (by decide +kernel)
        · have c_10 : j2_L3 < 10 := i_nle c_10
          refine lv_aload_n hx hb dX2_indexOf_13 rfl (lv_at hl 1 rfl) ?_
          refine lv_iload_n hx hb dX2_indexOf_14 rfl (lv_at hl 3 rfl) ?_
          refine va_iald hx hb hK hP 0 0 rfl rfl (iR_vp f_7_1 (by decide +kernel)) dX2_indexOf_15 ?_
          refine lv_iload_n hx hb dX2_indexOf_16 rfl (lv_at hl 0 rfl) ?_
          refine lv_icmp_ne (tgt := 22) hx hb dX2_indexOf_17 (by decide) (fun c_17 => ?_) (fun c_17 => ?_)
          · have c_17 : ¬ (f1 j2_L3.toNatClampNeg) = x0 := c_17
            obtain ⟨y_22, ey_22⟩ : ∃ y : Int32, y = j2_L3 + 1 := ⟨_, rfl⟩
            refine lv_iinc (v := y_22) (lv' := [(3, .int y_22), (0, .int x0), (1, .ref a1), (2, .int x2)]) hx hb dX2_indexOf_22 hl (k := 3) rfl ey_22.symm (by decide) rfl (fun ls hl => ?_)
            have f_22_3 : iR y_22 1 10 := iR_add ey_22 f_7_1 (iR_c (n := 1) (a := 1) (b := 1) (by decide +kernel) (by decide +kernel)) (by decide +kernel)
            refine lv_goto (tgt := 2) hx hb dX2_indexOf_25 (by decide) ?_
            exact ih_2 y_22 (iR_w f_22_3 (by decide +kernel)) (show ∀ j, j < y_22.toNatClampNeg → ¬ f1 j = x0 from (by rw [i_succ ey_22 f_7_1 (by decide +kernel)]; exact (fun j hj => if z9 : j = j2_L3.toNatClampNeg then (by rw [z9]; exact c_17) else p2_0 j (by omega)))) (m_up (B := 10) hm_2 ey_22 f_7_1 (by decide +kernel)) H locs ls hP hD hS (lv_sub hl [1, 2, 3, 0] rfl)
          · have c_17 : (f1 j2_L3.toNatClampNeg) = x0 := c_17
            refine lv_iload_n hx hb dX2_indexOf_20 rfl (lv_at hl 3 rfl) ?_
            exact k_ri B hP hD hS dX2_indexOf_21 () [0] rfl rfl rfl (Nat.le_of_ble_eq_true rfl) (Nat.le_of_ble_eq_true rfl) ⟨(show iR j2_L3 (-1) 9 from (iR_w f_7_1 (by decide +kernel))), (show IXI x2.toNatClampNeg f1 x0 j2_L3 from (Or.inr ⟨(i_lef (iR_c (n := 0) (a := 0) (b := 0) (by decide +kernel) (by decide +kernel)) f_7_1 (by decide +kernel)), i_ltN c_4 f_7_1 f_7_2 (by decide +kernel), c_17, p2_0⟩))⟩
  refine lv_istore_n (lv' := [(3, .int 0), (0, .int x0), (1, .ref a1), (2, .int x2)]) hx hb dX2_indexOf_1 rfl hl (by decide) rfl (fun ls hl => ?_)
  exact J_2 _ 0 (iR_c (n := 0) (a := 0) (b := 10) (by decide +kernel) (by decide +kernel)) (show ∀ j, j < 0 → ¬ f1 j = x0 from (fun j hj => absurd hj (Nat.not_lt_zero _))) (Nat.lt_succ_self _) H locs ls hP hD hS (lv_sub hl [1, 2, 3, 0] rfl)
set_option maxHeartbeats 8000000 in
set_option maxRecDepth 100000 in
theorem s_X2_step_v1 (l : Launch) (dC : Nat → ClassId) (dI : Nat → Nat → Nat) (cI cJ cZ cM : ClassId) (a0 : Nat) (a0_0 : Nat) (a0_1 : Nat) (a0_2 : Nat) (v0_3 : Int32) (v0_4 : Int32) (v0_5 : Int32) (v0_6 : Int32) (v0_7 : Int32) (v0_9 : Int32) (v0_10 : Int32) (hxv0_9 : iR v0_9 1 6) (hv0_3 : iR v0_3 0 1600) (hv0_4 : iR v0_4 0 1600) (hv0_5 : iR v0_5 0 1600) (hv0_6 : iR v0_6 0 324) (hv0_9 : iR v0_9 0 6) (hpg0 : (v0_9 = 0) ∨ ((v0_6 = 259))) : k_Mv l yX2_step wsX2_step ({ frames := 1, cells := 0, slots := 0, locals := 40 }) (dC, dI) vwCl (tyy cI cJ cZ cM) [(a0, .inr (2, [.ref a0_0, .ref a0_1, .ref a0_2, .int v0_3, .int v0_4, .int v0_5, .int v0_6, .int v0_7, .int 0, .int v0_9, .int v0_10]))] [.ref a0] 0 0 (fun (u9 : Unit) => [(a0, .inr (2, [.ref a0_0, .ref a0_1, .ref a0_2, .int v0_3, .int v0_4, .int v0_5, .int v0_6, .int v0_7, .int 0, .int v0_9, .int v0_10]))]) (fun (u9 : Unit) => ((v0_9 = 0) ∨ ((v0_6 = 259)))) := by
  refine fun sz => k_enter (cc := cX2_step) (maxL := 3) (ret := none) (Qc := fun A => va_Qv (fun (u9 : Unit) => ((v0_9 = 0) ∨ ((v0_6 = 259)))) (fun u => k_B (dC, dI) vwCl (tyy cI cJ cZ cM) A ((fun (u9 : Unit) => [(a0, .inr (2, [.ref a0_0, .ref a0_1, .ref a0_2, .int v0_3, .int v0_4, .int v0_5, .int v0_6, .int v0_7, .int 0, .int v0_9, .int v0_10]))]) u)) A) sz (by decide +kernel) rfl (Nat.le_of_ble_eq_true rfl) (fun p e s m args below meth c A ls H locs B hP hD hS hl => ?_)
  obtain ⟨hx, hb, hml, hown, hts, hr, hlk, hnm, hK, hA, hN, hC⟩ := id B
  have hown : s.vm.findClass RX2 = some m.cls := hown
  have hl : lv_has ls 3 [(0, .ref a0)] := hl
  have w_0 : (Cond.fieldLink RX2 63 "WishSea$Reader" "fault" "I").before args s = true := hts _ (List.mem_of_getElem? (i := 1) rfl)
  have hinX2 : ∀ w ∈ u_ws RX2 TX2 11, w ∈ wsX2_step := fun _ h => List.mem_cons_of_mem _ (List.mem_append_right _ h)
  refine lv_aload_n hx hb dX2_step_0 rfl (lv_at hl 0 rfl) ?_
  refine k_get (D := (dC, dI)) (ci := 2) (v := .int v0_9) (C := RX2) (T := TX2) (N := 11) hx hb hts hinX2 hown hK hP 0 rfl rfl 9 (by decide) w_0 rfl rfl dX2_step_1 ?_
  refine lv_if_eq (tgt := 8) hx hb dX2_step_4 (by decide) (fun c_4 => ?_) (fun c_4 => ?_)
  · exact iR_cl (iR_eqL (a' := 1) (b' := 0) c_4 hxv0_9 (iR_c (n := 0) (a := 0) (b := 0) (by decide +kernel) (by decide +kernel)) (by decide +kernel)) (by decide +kernel)
  · have c_4 : ¬ v0_9 = 0 := c_4
    obtain d_4_1_0 := hpg0.resolve_left c_4
    have f_7_1 : iR v0_6 259 259 := iR_eqL d_4_1_0 hv0_6 (iR_c (n := 259) (a := 259) (b := 259) (by decide +kernel) (by decide +kernel)) (by decide +kernel)
    exact k_rv B hP hD hS dX2_step_7 () [0] rfl rfl (Nat.le_of_ble_eq_true rfl) (Nat.le_of_ble_eq_true rfl) (show (v0_9 = 0) ∨ ((v0_6 = 259)) from (Or.inr d_4_1_0))
set_option maxHeartbeats 8000000 in
set_option maxRecDepth 100000 in
theorem s_X2_indexOf_v1 (l : Launch) (dC : Nat → ClassId) (dI : Nat → Nat → Nat) (cI cJ cZ cM : ClassId) (x0 : Int32) (a1 : Nat) (f1 : Nat → Int32) (x2 : Int32) (hx2 : iR x2 0 12) : k_Mi l yX2_indexOf wsX2_indexOf ({ frames := 1, cells := 0, slots := 0, locals := 40 }) (dC, dI) vwCl (tyy cI cJ cZ cM) [(a1, .inl (cI, 12, .inl f1))] [.int x0, .ref a1, .int x2] 0 0 (fun (u9 : Unit) => [(a1, .inl (cI, 12, .inl f1))]) (fun (r9 : Int32) (u9 : Unit) => (iR r9 (-1) 11) ∧ (IXI x2.toNatClampNeg f1 x0 r9)) := by
  refine fun sz => k_enter (cc := cX2_indexOf) (maxL := 4) (ret := some (.int)) (Qc := fun A => va_Qi (fun (r9 : Int32) (u9 : Unit) => (iR r9 (-1) 11) ∧ (IXI x2.toNatClampNeg f1 x0 r9)) (fun u => k_B (dC, dI) vwCl (tyy cI cJ cZ cM) A ((fun (u9 : Unit) => [(a1, .inl (cI, 12, .inl f1))]) u)) A) sz (by decide +kernel) rfl (Nat.le_of_ble_eq_true rfl) (fun p e s m args below meth c A ls H locs B hP hD hS hl => ?_)
  obtain ⟨hx, hb, hml, hown, hts, hr, hlk, hnm, hK, hA, hN, hC⟩ := id B
  have hown : s.vm.findClass RX2 = some m.cls := hown
  have hl : lv_has ls 4 [(0, .int x0), (1, .ref a1), (2, .int x2)] := hl
  refine lv_iconst (v := 0) hx hb dX2_indexOf_0 (by decide +kernel) ?_
  have J_2 : ∀ (n_2 : Nat) (j2_L3 : Int32) (hj2_L3 : iR j2_L3 0 12) (p2_0 : ∀ j, j < j2_L3.toNatClampNeg → ¬ f1 j = x0) (hm_2 : (12 - j2_L3.toInt).toNat < n_2) (H : Heap) (locs : List Loc) (ls : Array Slot), va_P (dC, dI) vwCl [(a1, .inl (cI, 12, .inl f1))] H → va_D A [(a1, .inl (cI, 12, .inl f1))] → va_S A s.heap H locs → lv_has ls 4 [(0, .int x0), (1, .ref a1), (2, .int x2), (3, .int j2_L3)] → W p l e ({ frames := 1, cells := 0, slots := 0, locals := 40 }) s m args below meth c H locs 0 0 (MQ below (va_Qi (fun (r9 : Int32) (u9 : Unit) => (iR r9 (-1) 11) ∧ (IXI x2.toNatClampNeg f1 x0 r9)) (fun u => k_B (dC, dI) vwCl (tyy cI cJ cZ cM) A ((fun (u9 : Unit) => [(a1, .inl (cI, 12, .inl f1))]) u)) A) args s 0 0 A) (F0 m 2 ls []) := by
    intro n_2
    induction n_2 with
    | zero => intro j2_L3 hj2_L3 p2_0 hm_2; exact absurd hm_2 (Nat.not_lt_zero _)
    | succ n_2 ih_2 =>
      intro j2_L3 hj2_L3 p2_0 hm_2 H locs ls hP hD hS hl
      refine lv_iload_n hx hb dX2_indexOf_2 rfl (lv_at hl 3 rfl) ?_
      refine lv_iload_n hx hb dX2_indexOf_3 rfl (lv_at hl 2 rfl) ?_
      refine lv_icmp_ge (tgt := 28) hx hb dX2_indexOf_4 (by decide) (fun c_4 => ?_) (fun c_4 => ?_)
      · have c_4 : x2 ≤ j2_L3 := c_4
        refine lv_iconst (v := (-1)) hx hb dX2_indexOf_28 (by decide +kernel) ?_
        exact k_ri B hP hD hS dX2_indexOf_29 () [0] rfl rfl rfl (Nat.le_of_ble_eq_true rfl) (Nat.le_of_ble_eq_true rfl) ⟨(show iR (-1) (-1) 11 from (iR_c (n := (-1)) (a := (-1)) (b := 11) (by decide +kernel) (by decide +kernel))), (show IXI x2.toNatClampNeg f1 x0 (-1) from (Or.inl ⟨rfl, fun j hj => p2_0 j (Nat.lt_of_lt_of_le hj (i_leN c_4 hx2 hj2_L3 (by decide +kernel)))⟩))⟩
      · have c_4 : j2_L3 < x2 := i_nle c_4
        have f_7_1 : iR j2_L3 0 11 := iR_ltL c_4 hj2_L3 hx2 (by decide +kernel)
        have f_7_2 : iR x2 1 12 := iR_ltR c_4 hj2_L3 hx2 (by decide +kernel)
        refine lv_iload_n hx hb dX2_indexOf_7 rfl (lv_at hl 3 rfl) ?_
        refine lv_aload_n hx hb dX2_indexOf_8 rfl (lv_at hl 1 rfl) ?_
        refine va_alen (v := 12) hx hb hK hP 0 0 rfl rfl rfl dX2_indexOf_9 ?_
        refine lv_icmp_ge (tgt := 28) hx hb dX2_indexOf_10 (by decide) (fun c_10 => ?_) (fun c_10 => ?_)
        · exact iR_cl (iR_leL (a' := 12) (b' := 11) c_10 (iR_c (n := 12) (a := 12) (b := 12) (by decide +kernel) (by decide +kernel)) f_7_1 (by decide +kernel)) (by decide +kernel)
        · have c_10 : j2_L3 < 12 := i_nle c_10
          refine lv_aload_n hx hb dX2_indexOf_13 rfl (lv_at hl 1 rfl) ?_
          refine lv_iload_n hx hb dX2_indexOf_14 rfl (lv_at hl 3 rfl) ?_
          refine va_iald hx hb hK hP 0 0 rfl rfl (iR_vp f_7_1 (by decide +kernel)) dX2_indexOf_15 ?_
          refine lv_iload_n hx hb dX2_indexOf_16 rfl (lv_at hl 0 rfl) ?_
          refine lv_icmp_ne (tgt := 22) hx hb dX2_indexOf_17 (by decide) (fun c_17 => ?_) (fun c_17 => ?_)
          · have c_17 : ¬ (f1 j2_L3.toNatClampNeg) = x0 := c_17
            obtain ⟨y_22, ey_22⟩ : ∃ y : Int32, y = j2_L3 + 1 := ⟨_, rfl⟩
            refine lv_iinc (v := y_22) (lv' := [(3, .int y_22), (0, .int x0), (1, .ref a1), (2, .int x2)]) hx hb dX2_indexOf_22 hl (k := 3) rfl ey_22.symm (by decide) rfl (fun ls hl => ?_)
            have f_22_3 : iR y_22 1 12 := iR_add ey_22 f_7_1 (iR_c (n := 1) (a := 1) (b := 1) (by decide +kernel) (by decide +kernel)) (by decide +kernel)
            refine lv_goto (tgt := 2) hx hb dX2_indexOf_25 (by decide) ?_
            exact ih_2 y_22 (iR_w f_22_3 (by decide +kernel)) (show ∀ j, j < y_22.toNatClampNeg → ¬ f1 j = x0 from (by rw [i_succ ey_22 f_7_1 (by decide +kernel)]; exact (fun j hj => if z9 : j = j2_L3.toNatClampNeg then (by rw [z9]; exact c_17) else p2_0 j (by omega)))) (m_up (B := 12) hm_2 ey_22 f_7_1 (by decide +kernel)) H locs ls hP hD hS (lv_sub hl [1, 2, 3, 0] rfl)
          · have c_17 : (f1 j2_L3.toNatClampNeg) = x0 := c_17
            refine lv_iload_n hx hb dX2_indexOf_20 rfl (lv_at hl 3 rfl) ?_
            exact k_ri B hP hD hS dX2_indexOf_21 () [0] rfl rfl rfl (Nat.le_of_ble_eq_true rfl) (Nat.le_of_ble_eq_true rfl) ⟨(show iR j2_L3 (-1) 11 from (iR_w f_7_1 (by decide +kernel))), (show IXI x2.toNatClampNeg f1 x0 j2_L3 from (Or.inr ⟨(i_lef (iR_c (n := 0) (a := 0) (b := 0) (by decide +kernel) (by decide +kernel)) f_7_1 (by decide +kernel)), i_ltN c_4 f_7_1 f_7_2 (by decide +kernel), c_17, p2_0⟩))⟩
  refine lv_istore_n (lv' := [(3, .int 0), (0, .int x0), (1, .ref a1), (2, .int x2)]) hx hb dX2_indexOf_1 rfl hl (by decide) rfl (fun ls hl => ?_)
  exact J_2 _ 0 (iR_c (n := 0) (a := 0) (b := 12) (by decide +kernel) (by decide +kernel)) (show ∀ j, j < 0 → ¬ f1 j = x0 from (fun j hj => absurd hj (Nat.not_lt_zero _))) (Nat.lt_succ_self _) H locs ls hP hD hS (lv_sub hl [1, 2, 3, 0] rfl)
set_option maxHeartbeats 8000000 in
set_option maxRecDepth 100000 in
theorem s_X2_step_v2 (l : Launch) (dC : Nat → ClassId) (dI : Nat → Nat → Nat) (cI cJ cZ cM : ClassId) (a0 : Nat) (a0_0 : Nat) (f0_0 : Nat → Int32) (a0_1 : Nat) (g0_1 : Nat → Int64) (b0_2 : Nat) (v0_3 : Int32) (v0_4 : Int32) (v0_5 : Int32) (v0_6 : Int32) (v0_7 : Int32) (v0_9 : Int32) (v0_10 : Int32) (hv0_3 : iR v0_3 0 1600) (hv0_4 : iR v0_4 0 1600) (hv0_5 : iR v0_5 0 1600) (hv0_6 : iR v0_6 0 324) (hv0_9 : iR v0_9 0 6) (hf0_0 : aR f0_0 0 255) (hpg0 : (v0_9 = 0) ∨ ((v0_6 = 259))) : k_Mv l yX2_step wsX2_step ({ frames := 3, cells := 0, slots := 0, locals := 89 }) (dC, dI) vwCl (tyy cI cJ cZ cM) [(a0, .inr (2, [.ref a0_0, .ref a0_1, .ref b0_2, .int v0_3, .int v0_4, .int v0_5, .int v0_6, .int v0_7, .int 0, .int v0_9, .int v0_10])), (a0_0, .inl (cI, 1600, .inl f0_0)), (a0_1, .inl (cJ, 25, .inr (.inl g0_1)))] [.ref a0] 0 0 (fun (u9 : SU) => [(a0, .inr (2, [.ref a0_0, .ref a0_1, .ref b0_2, .int v0_3, .int (u9.1 0), .int (u9.1 1), .int (u9.1 2), .int (u9.1 3), .int 0, .int (u9.1 4), .int (u9.1 5)])), (a0_0, .inl (cI, 1600, .inl f0_0)), (a0_1, .inl (cJ, 25, .inr (.inl g0_1)))]) (fun (u9 : SU) => (iR (u9.1 0) 0 1600) ∧ (iR (u9.1 1) 0 1600) ∧ (iR (u9.1 2) 0 324) ∧ (iR (u9.1 4) 0 6) ∧ (XTS f0_0 g0_1 v0_3.toNatClampNeg v0_4 v0_6 v0_7 v0_9 v0_10 (u9.1 0) (u9.1 1) (u9.1 2) (u9.1 3) (u9.1 4) (u9.1 5)) ∧ ((0 : Int32) < v0_9 → (0 : Int32) < (u9.1 4)) ∧ (((u9.1 4) = 0) ∨ (((u9.1 2) = 259)))) := by
  refine fun sz => k_enter (cc := cX2_step) (maxL := 3) (ret := none) (Qc := fun A => va_Qv (fun (u9 : SU) => (iR (u9.1 0) 0 1600) ∧ (iR (u9.1 1) 0 1600) ∧ (iR (u9.1 2) 0 324) ∧ (iR (u9.1 4) 0 6) ∧ (XTS f0_0 g0_1 v0_3.toNatClampNeg v0_4 v0_6 v0_7 v0_9 v0_10 (u9.1 0) (u9.1 1) (u9.1 2) (u9.1 3) (u9.1 4) (u9.1 5)) ∧ ((0 : Int32) < v0_9 → (0 : Int32) < (u9.1 4)) ∧ (((u9.1 4) = 0) ∨ (((u9.1 2) = 259)))) (fun u => k_B (dC, dI) vwCl (tyy cI cJ cZ cM) A ((fun (u9 : SU) => [(a0, .inr (2, [.ref a0_0, .ref a0_1, .ref b0_2, .int v0_3, .int (u9.1 0), .int (u9.1 1), .int (u9.1 2), .int (u9.1 3), .int 0, .int (u9.1 4), .int (u9.1 5)])), (a0_0, .inl (cI, 1600, .inl f0_0)), (a0_1, .inl (cJ, 25, .inr (.inl g0_1)))]) u)) A) sz (by decide +kernel) rfl (Nat.le_of_ble_eq_true rfl) (fun p e s m args below meth c A ls H locs B hP hD hS hl => ?_)
  obtain ⟨hx, hb, hml, hown, hts, hr, hlk, hnm, hK, hA, hN, hC⟩ := id B
  have hown : s.vm.findClass RX2 = some m.cls := hown
  have hl : lv_has ls 3 [(0, .ref a0)] := hl
  have w_0 : (Cond.fieldLink RX2 63 "WishSea$Reader" "fault" "I").before args s = true := hts _ (List.mem_of_getElem? (i := 1) rfl)
  have w_1 : (Cond.fieldLink RX2 57 "WishSea$Reader" "position" "I").before args s = true := hts _ (List.mem_of_getElem? (i := 2) rfl)
  have w_2 : (Cond.fieldLink RX2 15 "WishSea$Reader" "token" "I").before args s = true := hts _ (List.mem_of_getElem? (i := 3) rfl)
  have w_3 : (Cond.fieldLink RX2 55 "WishSea$Reader" "length" "I").before args s = true := hts _ (List.mem_of_getElem? (i := 4) rfl)
  have w_4 : (Cond.fieldLink RX2 73 "WishSea$Reader" "start" "I").before args s = true := hts _ (List.mem_of_getElem? (i := 6) rfl)
  have w_5 : (Cond.fieldLink RX2 22 "WishSea$Reader" "text" "[I").before args s = true := hts _ (List.mem_of_getElem? (i := 5) rfl)
  have hinX2 : ∀ w ∈ u_ws RX2 TX2 11, w ∈ wsX2_step := fun _ h => List.mem_cons_of_mem _ (List.mem_append_right _ h)
  refine lv_aload_n hx hb dX2_step_0 rfl (lv_at hl 0 rfl) ?_
  refine k_get (D := (dC, dI)) (ci := 2) (v := .int v0_9) (C := RX2) (T := TX2) (N := 11) hx hb hts hinX2 hown hK hP 0 rfl rfl 9 (by decide) w_0 rfl rfl dX2_step_1 ?_
  refine lv_if_eq (tgt := 8) hx hb dX2_step_4 (by decide) (fun c_4 => ?_) (fun c_4 => ?_)
  · have c_4 : v0_9 = 0 := c_4
    have f_8_1 : iR v0_9 0 0 := iR_eqL c_4 hv0_9 (iR_c (n := 0) (a := 0) (b := 0) (by decide +kernel) (by decide +kernel)) (by decide +kernel)
    refine lv_aload_n hx hb dX2_step_8 rfl (lv_at hl 0 rfl) ?_
    refine k_get (D := (dC, dI)) (ci := 2) (v := .int v0_4) (C := RX2) (T := TX2) (N := 11) hx hb hts hinX2 hown hK hP 0 rfl rfl 4 (by decide) w_1 rfl rfl dX2_step_9 ?_
    refine lv_istore_n (lv' := [(1, .int v0_4), (0, .ref a0)]) hx hb dX2_step_12 rfl hl (by decide) rfl (fun ls hl => ?_)
    refine lv_aload_n hx hb dX2_step_13 rfl (lv_at hl 1 rfl) ?_
    refine k_get (D := (dC, dI)) (ci := 2) (v := .int v0_6) (C := RX2) (T := TX2) (N := 11) hx hb hts hinX2 hown hK hP 0 rfl rfl 6 (by decide) w_2 rfl rfl dX2_step_14 ?_
    refine k_ci (wc := []) (wr := [(a0, .inr (2, [.ref a0_0, .ref a0_1, .ref b0_2, .int v0_3, .int v0_4, .int v0_5, .int v0_6, .int v0_7, .int 0, .int v0_9, .int v0_10])), (a0_0, .inl (cI, 1600, .inl f0_0)), (a0_1, .inl (cJ, 25, .inr (.inl g0_1)))]) (fun hPc hDc hFc => va_runS (As := [.int v0_6]) (rest := []) ⟨hx, hb, hml, hown, hts⟩ (s_X2_isWhole_v0 l dC dI cI cJ cZ cM v0_6 H.size) (va_cwS 1 hts gX2_step_X2_isWhole rfl rfl rfl (by decide +kernel) ⟨(Nat.le_of_ble_eq_true rfl), (Nat.le_of_ble_eq_true rfl)⟩) (k_pS hPc hDc hK hN hC hS hFc) rfl rfl hl.1 rfl (lv_room (Nat.le_of_ble_eq_true rfl)) dX2_step_17 ⟨(Nat.le_of_ble_eq_true rfl), (Nat.le_of_ble_eq_true rfl)⟩) hP hD hS hA [] [0, 1, 2] rfl rfl rfl rfl (by decide) (fun _ => rfl) 0 0 rfl rfl (fun r_17 u_17 H locs hw hP hD hS => ?_)
    obtain ⟨g_17_0, g_17_1⟩ := hw
    have hP : va_P (dC, dI) vwCl [(a0, .inr (2, [.ref a0_0, .ref a0_1, .ref b0_2, .int v0_3, .int v0_4, .int v0_5, .int v0_6, .int v0_7, .int 0, .int v0_9, .int v0_10])), (a0_0, .inl (cI, 1600, .inl f0_0)), (a0_1, .inl (cJ, 25, .inr (.inl g0_1)))] H := hP
    have hD : va_D A [(a0, .inr (2, [.ref a0_0, .ref a0_1, .ref b0_2, .int v0_3, .int v0_4, .int v0_5, .int v0_6, .int v0_7, .int 0, .int v0_9, .int v0_10])), (a0_0, .inl (cI, 1600, .inl f0_0)), (a0_1, .inl (cJ, 25, .inr (.inl g0_1)))] := hD
    have g_17_1 : r_17 = bI (wh v0_6) := g_17_1
    have J_21 : ∀ (n_21 : Nat) (j21_F0_4 : Int32) (hj21_F0_4 : iR j21_F0_4 0 1600) (p21_0 : rn cB f0_0 v0_3.toNatClampNeg j21_F0_4.toNatClampNeg = rn cB f0_0 v0_3.toNatClampNeg v0_4.toNatClampNeg) (hm_21 : (1600 - j21_F0_4.toInt).toNat < n_21) (H : Heap) (locs : List Loc) (ls : Array Slot), va_P (dC, dI) vwCl [(a0, .inr (2, [.ref a0_0, .ref a0_1, .ref b0_2, .int v0_3, .int j21_F0_4, .int v0_5, .int v0_6, .int v0_7, .int 0, .int v0_9, .int v0_10])), (a0_0, .inl (cI, 1600, .inl f0_0)), (a0_1, .inl (cJ, 25, .inr (.inl g0_1)))] H → va_D A [(a0, .inr (2, [.ref a0_0, .ref a0_1, .ref b0_2, .int v0_3, .int j21_F0_4, .int v0_5, .int v0_6, .int v0_7, .int 0, .int v0_9, .int v0_10])), (a0_0, .inl (cI, 1600, .inl f0_0)), (a0_1, .inl (cJ, 25, .inr (.inl g0_1)))] → va_S A s.heap H locs → lv_has ls 3 [(0, .ref a0), (1, .int v0_4), (2, .int r_17)] → W p l e ({ frames := 3, cells := 0, slots := 0, locals := 89 }) s m args below meth c H locs 0 0 (MQ below (va_Qv (fun (u9 : SU) => (iR (u9.1 0) 0 1600) ∧ (iR (u9.1 1) 0 1600) ∧ (iR (u9.1 2) 0 324) ∧ (iR (u9.1 4) 0 6) ∧ (XTS f0_0 g0_1 v0_3.toNatClampNeg v0_4 v0_6 v0_7 v0_9 v0_10 (u9.1 0) (u9.1 1) (u9.1 2) (u9.1 3) (u9.1 4) (u9.1 5)) ∧ ((0 : Int32) < v0_9 → (0 : Int32) < (u9.1 4)) ∧ (((u9.1 4) = 0) ∨ (((u9.1 2) = 259)))) (fun u => k_B (dC, dI) vwCl (tyy cI cJ cZ cM) A ((fun (u9 : SU) => [(a0, .inr (2, [.ref a0_0, .ref a0_1, .ref b0_2, .int v0_3, .int (u9.1 0), .int (u9.1 1), .int (u9.1 2), .int (u9.1 3), .int 0, .int (u9.1 4), .int (u9.1 5)])), (a0_0, .inl (cI, 1600, .inl f0_0)), (a0_1, .inl (cJ, 25, .inr (.inl g0_1)))]) u)) A) args s 0 0 A) (F0 m 21 ls []) := by
      intro n_21
      induction n_21 with
      | zero => intro j21_F0_4 hj21_F0_4 p21_0 hm_21; exact absurd hm_21 (Nat.not_lt_zero _)
      | succ n_21 ih_21 =>
        intro j21_F0_4 hj21_F0_4 p21_0 hm_21 H locs ls hP hD hS hl
        refine lv_aload_n hx hb dX2_step_21 rfl (lv_at hl 0 rfl) ?_
        refine k_get (D := (dC, dI)) (ci := 2) (v := .int j21_F0_4) (C := RX2) (T := TX2) (N := 11) hx hb hts hinX2 hown hK hP 0 rfl rfl 4 (by decide) w_1 rfl rfl dX2_step_22 ?_
        refine lv_aload_n hx hb dX2_step_25 rfl (lv_at hl 0 rfl) ?_
        refine k_get (D := (dC, dI)) (ci := 2) (v := .int v0_3) (C := RX2) (T := TX2) (N := 11) hx hb hts hinX2 hown hK hP 0 rfl rfl 3 (by decide) w_3 rfl rfl dX2_step_26 ?_
        refine lv_icmp_ge (tgt := 73) hx hb dX2_step_29 (by decide) (fun c_29 => ?_) (fun c_29 => ?_)
        · have c_29 : v0_3 ≤ j21_F0_4 := c_29
          refine lv_aload_n hx hb dX2_step_73 rfl (lv_at hl 0 rfl) ?_
          refine lv_aload_n hx hb dX2_step_74 rfl (lv_at hl 0 rfl) ?_
          refine k_get (D := (dC, dI)) (ci := 2) (v := .int j21_F0_4) (C := RX2) (T := TX2) (N := 11) hx hb hts hinX2 hown hK hP 0 rfl rfl 4 (by decide) w_1 rfl rfl dX2_step_75 ?_
          refine k_put (D := (dC, dI)) (ci := 2) (v := .int j21_F0_4) (C := RX2) (T := TX2) (N := 11) (ws' := [(a0, .inr (2, [.ref a0_0, .ref a0_1, .ref b0_2, .int v0_3, .int j21_F0_4, .int j21_F0_4, .int v0_6, .int v0_7, .int 0, .int v0_9, .int v0_10])), (a0_0, .inl (cI, 1600, .inl f0_0)), (a0_1, .inl (cJ, 25, .inr (.inl g0_1)))]) hx hb hts hinX2 tyX2 tyX2_ok nmX2 hown hK hP hD hS 0 rfl rfl 5 (by decide) w_4 rfl rfl rfl rfl (Nat.le_of_ble_eq_true rfl) rfl dX2_step_78 (fun H locs hP hD hS => ?_)
          refine lv_aload_n hx hb dX2_step_81 rfl (lv_at hl 0 rfl) ?_
          refine k_get (D := (dC, dI)) (ci := 2) (v := .int j21_F0_4) (C := RX2) (T := TX2) (N := 11) hx hb hts hinX2 hown hK hP 0 rfl rfl 4 (by decide) w_1 rfl rfl dX2_step_82 ?_
          refine lv_aload_n hx hb dX2_step_85 rfl (lv_at hl 0 rfl) ?_
          refine k_get (D := (dC, dI)) (ci := 2) (v := .int v0_3) (C := RX2) (T := TX2) (N := 11) hx hb hts hinX2 hown hK hP 0 rfl rfl 3 (by decide) w_3 rfl rfl dX2_step_86 ?_
          refine lv_icmp_lt (tgt := 102) hx hb dX2_step_89 (by decide) (fun c_89p29 => ?_) (fun c_89p29 => ?_)
          · exact (i_noall (by have r0 : v0_3.toInt ≤ j21_F0_4.toInt := i_ti_le rfl rfl c_29; have r1 : j21_F0_4.toInt < v0_3.toInt := i_ti_lt rfl rfl c_89p29; omega)).elim
          · have c_89p29 : v0_3 ≤ j21_F0_4 := i_nlt c_89p29
            refine lv_aload_n hx hb dX2_step_92 rfl (lv_at hl 0 rfl) ?_
            refine lv_sipush (v := 256) hx hb dX2_step_93 (by decide +kernel) ?_
            refine k_put (D := (dC, dI)) (ci := 2) (v := .int 256) (C := RX2) (T := TX2) (N := 11) (ws' := [(a0, .inr (2, [.ref a0_0, .ref a0_1, .ref b0_2, .int v0_3, .int j21_F0_4, .int j21_F0_4, .int 256, .int v0_7, .int 0, .int v0_9, .int v0_10])), (a0_0, .inl (cI, 1600, .inl f0_0)), (a0_1, .inl (cJ, 25, .inr (.inl g0_1)))]) hx hb hts hinX2 tyX2 tyX2_ok nmX2 hown hK hP hD hS 0 rfl rfl 6 (by decide) w_2 rfl rfl rfl rfl (Nat.le_of_ble_eq_true rfl) rfl dX2_step_96 (fun H locs hP hD hS => ?_)
            refine lv_goto (tgt := 169) hx hb dX2_step_99 (by decide) ?_
            refine lv_iload_n hx hb dX2_step_169 rfl (lv_at hl 2 rfl) ?_
            refine lv_if_eq (tgt := 200) hx hb dX2_step_170 (by decide) (fun c_170p29p99 => ?_) (fun c_170p29p99 => ?_)
            · have c_170p29p99 : r_17 = 0 := c_170p29p99
              have f_200p29p99_1 : iR r_17 0 0 := iR_eqL c_170p29p99 g_17_0 (iR_c (n := 0) (a := 0) (b := 0) (by decide +kernel) (by decide +kernel)) (by decide +kernel)
              exact k_rv B hP hD hS dX2_step_200 ((fun k9 => match k9 with | 0 => j21_F0_4 | 1 => j21_F0_4 | 2 => 256 | 3 => v0_7 | 4 => v0_9 | 5 => v0_10 | _ => 0), (fun _ => 0), (fun _ => (fun _ => 0)), (fun _ => (fun _ => 0)), (fun _ => 0)) [0, 1, 2] rfl rfl (Nat.le_of_ble_eq_true rfl) (Nat.le_of_ble_eq_true rfl) ⟨(show iR j21_F0_4 0 1600 from hj21_F0_4), (show iR j21_F0_4 0 1600 from hj21_F0_4), (show iR 256 0 324 from (iR_c (n := 256) (a := 0) (b := 324) (by decide +kernel) (by decide +kernel))), (show iR v0_9 0 6 from (iR_w f_8_1 (by decide +kernel))), (show XTS f0_0 g0_1 v0_3.toNatClampNeg v0_4 v0_6 v0_7 v0_9 v0_10 j21_F0_4 j21_F0_4 256 v0_7 v0_9 v0_10 from (Or.inr ⟨c_4, (rn_e (Or.inl (i_leN c_89p29 hv0_3 hj21_F0_4 (by decide +kernel)))).symm.trans p21_0, (256 : Int32), v0_9, v0_10, Or.inl ⟨i_leN c_89p29 hv0_3 hj21_F0_4 (by decide +kernel), rfl, rfl, rfl, c_4, rfl⟩, Or.inr ⟨fun q9 => absurd (q9.1.symm.trans (bI_f g_17_1 c_170p29p99)) (by decide), rfl, rfl, rfl⟩⟩)), (show (0 : Int32) < v0_9 → (0 : Int32) < v0_9 from (fun h => h)), (show (v0_9 = 0) ∨ ((256 = 259)) from (Or.inl c_4))⟩
            · have c_170p29p99 : ¬ r_17 = 0 := c_170p29p99
              have f_173p29p99_1 : iR r_17 1 1 := iR_neL c_170p29p99 g_17_0 (iR_c (n := 0) (a := 0) (b := 0) (by decide +kernel) (by decide +kernel)) (by decide +kernel)
              refine lv_aload_n hx hb dX2_step_173 rfl (lv_at hl 0 rfl) ?_
              refine k_get (D := (dC, dI)) (ci := 2) (v := .int j21_F0_4) (C := RX2) (T := TX2) (N := 11) hx hb hts hinX2 hown hK hP 0 rfl rfl 5 (by decide) w_4 rfl rfl dX2_step_174 ?_
              refine lv_iload_n hx hb dX2_step_177 rfl (lv_at hl 1 rfl) ?_
              refine lv_icmp_ne (tgt := 200) hx hb dX2_step_178 (by decide) (fun c_178p29p99 => ?_) (fun c_178p29p99 => ?_)
              · have c_178p29p99 : ¬ j21_F0_4 = v0_4 := c_178p29p99
                exact k_rv B hP hD hS dX2_step_200 ((fun k9 => match k9 with | 0 => j21_F0_4 | 1 => j21_F0_4 | 2 => 256 | 3 => v0_7 | 4 => v0_9 | 5 => v0_10 | _ => 0), (fun _ => 0), (fun _ => (fun _ => 0)), (fun _ => (fun _ => 0)), (fun _ => 0)) [0, 1, 2] rfl rfl (Nat.le_of_ble_eq_true rfl) (Nat.le_of_ble_eq_true rfl) ⟨(show iR j21_F0_4 0 1600 from hj21_F0_4), (show iR j21_F0_4 0 1600 from hj21_F0_4), (show iR 256 0 324 from (iR_c (n := 256) (a := 0) (b := 324) (by decide +kernel) (by decide +kernel))), (show iR v0_9 0 6 from (iR_w f_8_1 (by decide +kernel))), (show XTS f0_0 g0_1 v0_3.toNatClampNeg v0_4 v0_6 v0_7 v0_9 v0_10 j21_F0_4 j21_F0_4 256 v0_7 v0_9 v0_10 from (Or.inr ⟨c_4, (rn_e (Or.inl (i_leN c_89p29 hv0_3 hj21_F0_4 (by decide +kernel)))).symm.trans p21_0, (256 : Int32), v0_9, v0_10, Or.inl ⟨i_leN c_89p29 hv0_3 hj21_F0_4 (by decide +kernel), rfl, rfl, rfl, c_4, rfl⟩, Or.inr ⟨fun q9 => c_178p29p99 q9.2.1, rfl, rfl, rfl⟩⟩)), (show (0 : Int32) < v0_9 → (0 : Int32) < v0_9 from (fun h => h)), (show (v0_9 = 0) ∨ ((256 = 259)) from (Or.inl c_4))⟩
              · have c_178p29p99 : j21_F0_4 = v0_4 := c_178p29p99
                refine lv_aload_n hx hb dX2_step_181 rfl (lv_at hl 0 rfl) ?_
                refine k_get (D := (dC, dI)) (ci := 2) (v := .int 256) (C := RX2) (T := TX2) (N := 11) hx hb hts hinX2 hown hK hP 0 rfl rfl 6 (by decide) w_2 rfl rfl dX2_step_182 ?_
                refine k_ci (wc := []) (wr := [(a0, .inr (2, [.ref a0_0, .ref a0_1, .ref b0_2, .int v0_3, .int j21_F0_4, .int j21_F0_4, .int 256, .int v0_7, .int 0, .int v0_9, .int v0_10])), (a0_0, .inl (cI, 1600, .inl f0_0)), (a0_1, .inl (cJ, 25, .inr (.inl g0_1)))]) (fun hPc hDc hFc => va_runS (As := [.int 256]) (rest := []) ⟨hx, hb, hml, hown, hts⟩ (s_X2_isWhole_v0 l dC dI cI cJ cZ cM 256 H.size) (va_cwS 1 hts gX2_step_X2_isWhole rfl rfl rfl (by decide +kernel) ⟨(Nat.le_of_ble_eq_true rfl), (Nat.le_of_ble_eq_true rfl)⟩) (k_pS hPc hDc hK hN hC hS hFc) rfl rfl hl.1 rfl (lv_room (Nat.le_of_ble_eq_true rfl)) dX2_step_185 ⟨(Nat.le_of_ble_eq_true rfl), (Nat.le_of_ble_eq_true rfl)⟩) hP hD hS hA [] [0, 1, 2] rfl rfl rfl rfl (by decide) (fun _ => rfl) 0 0 rfl rfl (fun r_185p29p99 u_185p29p99 H locs hw hP hD hS => ?_)
                obtain ⟨g_185p29p99_0, g_185p29p99_1⟩ := hw
                have hP : va_P (dC, dI) vwCl [(a0, .inr (2, [.ref a0_0, .ref a0_1, .ref b0_2, .int v0_3, .int j21_F0_4, .int j21_F0_4, .int 256, .int v0_7, .int 0, .int v0_9, .int v0_10])), (a0_0, .inl (cI, 1600, .inl f0_0)), (a0_1, .inl (cJ, 25, .inr (.inl g0_1)))] H := hP
                have hD : va_D A [(a0, .inr (2, [.ref a0_0, .ref a0_1, .ref b0_2, .int v0_3, .int j21_F0_4, .int j21_F0_4, .int 256, .int v0_7, .int 0, .int v0_9, .int v0_10])), (a0_0, .inl (cI, 1600, .inl f0_0)), (a0_1, .inl (cJ, 25, .inr (.inl g0_1)))] := hD
                have g_185p29p99_1 : r_185p29p99 = bI (wh 256) := g_185p29p99_1
                refine lv_if_eq (tgt := 200) hx hb dX2_step_188 (by decide) (fun c_188p29p99 => ?_) (fun c_188p29p99 => ?_)
                · have c_188p29p99 : r_185p29p99 = 0 := c_188p29p99
                  have f_200p29p99_2 : iR r_185p29p99 0 0 := iR_eqL c_188p29p99 g_185p29p99_0 (iR_c (n := 0) (a := 0) (b := 0) (by decide +kernel) (by decide +kernel)) (by decide +kernel)
                  exact k_rv B hP hD hS dX2_step_200 ((fun k9 => match k9 with | 0 => j21_F0_4 | 1 => j21_F0_4 | 2 => 256 | 3 => v0_7 | 4 => v0_9 | 5 => v0_10 | _ => 0), (fun _ => 0), (fun _ => (fun _ => 0)), (fun _ => (fun _ => 0)), (fun _ => 0)) [0, 1, 2] rfl rfl (Nat.le_of_ble_eq_true rfl) (Nat.le_of_ble_eq_true rfl) ⟨(show iR j21_F0_4 0 1600 from hj21_F0_4), (show iR j21_F0_4 0 1600 from hj21_F0_4), (show iR 256 0 324 from (iR_c (n := 256) (a := 0) (b := 324) (by decide +kernel) (by decide +kernel))), (show iR v0_9 0 6 from (iR_w f_8_1 (by decide +kernel))), (show XTS f0_0 g0_1 v0_3.toNatClampNeg v0_4 v0_6 v0_7 v0_9 v0_10 j21_F0_4 j21_F0_4 256 v0_7 v0_9 v0_10 from (Or.inr ⟨c_4, (rn_e (Or.inl (i_leN c_89p29 hv0_3 hj21_F0_4 (by decide +kernel)))).symm.trans p21_0, (256 : Int32), v0_9, v0_10, Or.inl ⟨i_leN c_89p29 hv0_3 hj21_F0_4 (by decide +kernel), rfl, rfl, rfl, c_4, rfl⟩, Or.inr ⟨fun q9 => absurd (q9.2.2.symm.trans (bI_f g_185p29p99_1 c_188p29p99)) (by decide), rfl, rfl, rfl⟩⟩)), (show (0 : Int32) < v0_9 → (0 : Int32) < v0_9 from (fun h => h)), (show (v0_9 = 0) ∨ ((256 = 259)) from (Or.inl c_4))⟩
                · have c_188p29p99 : ¬ r_185p29p99 = 0 := c_188p29p99
                  have f_191p29p99_2 : iR r_185p29p99 1 1 := iR_neL c_188p29p99 g_185p29p99_0 (iR_c (n := 0) (a := 0) (b := 0) (by decide +kernel) (by decide +kernel)) (by decide +kernel)
                  refine lv_aload_n hx hb dX2_step_191 rfl (lv_at hl 0 rfl) ?_
                  refine lv_iconst (v := 1) hx hb dX2_step_192 (by decide +kernel) ?_
                  refine lv_aload_n hx hb dX2_step_193 rfl (lv_at hl 0 rfl) ?_
                  refine k_get (D := (dC, dI)) (ci := 2) (v := .int j21_F0_4) (C := RX2) (T := TX2) (N := 11) hx hb hts hinX2 hown hK hP 0 rfl rfl 5 (by decide) w_4 rfl rfl dX2_step_194 ?_
                  refine k_cv (wc := [(a0, .inr (2, [.ref a0_0, .ref a0_1, .ref b0_2, .int v0_3, .int j21_F0_4, .int j21_F0_4, .int 256, .int v0_7, .int 0, .int v0_9, .int v0_10]))]) (wr := [(a0_0, .inl (cI, 1600, .inl f0_0)), (a0_1, .inl (cJ, 25, .inr (.inl g0_1)))]) (fun hPc hDc hFc => va_runV (As := [.int 1, .int j21_F0_4]) (rest := []) ⟨hx, hb, hml, hown, hts⟩ (s_X2_blame_v2 l dC dI cI cJ cZ cM a0 1 j21_F0_4 a0_0 a0_1 b0_2 v0_3 j21_F0_4 j21_F0_4 256 v0_7 v0_9 v0_10 (iR_c (n := 1) (a := 1) (b := 6) (by decide +kernel) (by decide +kernel)) hv0_3 hj21_F0_4 hj21_F0_4 (iR_c (n := 256) (a := 0) (b := 324) (by decide +kernel) (by decide +kernel)) (iR_w f_8_1 (by decide +kernel)) (Or.inl c_4) H.size) (cwV 2 hts gX2_step_X2_blame rfl rfl rfl (by decide +kernel) ⟨(Nat.le_of_ble_eq_true rfl), (Nat.le_of_ble_eq_true rfl)⟩) (k_pV hPc hDc hK hN hC hS hFc hP (q0 := 0) (ci := 2) rfl rfl) rfl rfl hl.1 rfl (lv_room (Nat.le_of_ble_eq_true rfl)) dX2_step_197 ⟨(Nat.le_of_ble_eq_true rfl), (Nat.le_of_ble_eq_true rfl)⟩) hP hD hS hA [0] [1, 2] rfl rfl rfl rfl (by decide) (fun _ => rfl) 0 0 rfl rfl (fun u_197p29p99 H locs hw hP hD hS => ?_)
                  obtain ⟨g_197p29p99_0, g_197p29p99_1, g_197p29p99_2, g_197p29p99_3, g_197p29p99_4⟩ := hw
                  have hP : va_P (dC, dI) vwCl [(a0_0, .inl (cI, 1600, .inl f0_0)), (a0_1, .inl (cJ, 25, .inr (.inl g0_1))), (a0, .inr (2, [.ref a0_0, .ref a0_1, .ref b0_2, .int v0_3, .int j21_F0_4, .int j21_F0_4, .int (u_197p29p99.1 0), .int v0_7, .int 0, .int (u_197p29p99.1 1), .int (u_197p29p99.1 2)]))] H := hP
                  have hD : va_D A [(a0_0, .inl (cI, 1600, .inl f0_0)), (a0_1, .inl (cJ, 25, .inr (.inl g0_1))), (a0, .inr (2, [.ref a0_0, .ref a0_1, .ref b0_2, .int v0_3, .int j21_F0_4, .int j21_F0_4, .int (u_197p29p99.1 0), .int v0_7, .int 0, .int (u_197p29p99.1 1), .int (u_197p29p99.1 2)]))] := hD
                  have g_197p29p99_2 : BL 256 v0_9 v0_10 1 j21_F0_4 (u_197p29p99.1 0) (u_197p29p99.1 1) (u_197p29p99.1 2) := g_197p29p99_2
                  have g_197p29p99_3 : (0 : Int32) < v0_9 → (0 : Int32) < (u_197p29p99.1 1) := g_197p29p99_3
                  have g_197p29p99_4 : ((u_197p29p99.1 1) = 0) ∨ (((u_197p29p99.1 0) = 259)) := g_197p29p99_4
                  obtain d197p29p99_1_0 := g_197p29p99_4.resolve_left (i_nef g_197p29p99_1 (iR_c (n := 0) (a := 0) (b := 0) (by decide +kernel) (by decide +kernel)) (by decide +kernel))
                  exact k_rv B hP hD hS dX2_step_200 ((fun k9 => match k9 with | 0 => j21_F0_4 | 1 => j21_F0_4 | 2 => (u_197p29p99.1 0) | 3 => v0_7 | 4 => (u_197p29p99.1 1) | 5 => (u_197p29p99.1 2) | _ => 0), (fun _ => 0), (fun _ => (fun _ => 0)), (fun _ => (fun _ => 0)), (fun _ => 0)) [2, 0, 1] rfl rfl (Nat.le_of_ble_eq_true rfl) (Nat.le_of_ble_eq_true rfl) ⟨(show iR j21_F0_4 0 1600 from hj21_F0_4), (show iR j21_F0_4 0 1600 from hj21_F0_4), (show iR (u_197p29p99.1 0) 0 324 from (iR_w g_197p29p99_0 (by decide +kernel))), (show iR (u_197p29p99.1 1) 0 6 from (iR_w g_197p29p99_1 (by decide +kernel))), (show XTS f0_0 g0_1 v0_3.toNatClampNeg v0_4 v0_6 v0_7 v0_9 v0_10 j21_F0_4 j21_F0_4 (u_197p29p99.1 0) v0_7 (u_197p29p99.1 1) (u_197p29p99.1 2) from (Or.inr ⟨c_4, (rn_e (Or.inl (i_leN c_89p29 hv0_3 hj21_F0_4 (by decide +kernel)))).symm.trans p21_0, (256 : Int32), v0_9, v0_10, Or.inl ⟨i_leN c_89p29 hv0_3 hj21_F0_4 (by decide +kernel), rfl, rfl, rfl, c_4, rfl⟩, Or.inl ⟨(bI_t g_17_1 c_170p29p99), c_178p29p99, (bI_t g_185p29p99_1 c_188p29p99), g_197p29p99_2⟩⟩)), (show (0 : Int32) < v0_9 → (0 : Int32) < (u_197p29p99.1 1) from (fun h => g_197p29p99_3 ((fun h => h) h))), (show ((u_197p29p99.1 1) = 0) ∨ (((u_197p29p99.1 0) = 259)) from (Or.inr d197p29p99_1_0))⟩
        · have c_29 : j21_F0_4 < v0_3 := i_nle c_29
          have f_32_1 : iR j21_F0_4 0 1599 := iR_ltL c_29 hj21_F0_4 hv0_3 (by decide +kernel)
          have f_32_2 : iR v0_3 1 1600 := iR_ltR c_29 hj21_F0_4 hv0_3 (by decide +kernel)
          refine lv_aload_n hx hb dX2_step_32 rfl (lv_at hl 0 rfl) ?_
          refine k_get (D := (dC, dI)) (ci := 2) (v := .ref a0_0) (C := RX2) (T := TX2) (N := 11) hx hb hts hinX2 hown hK hP 0 rfl rfl 0 (by decide) w_5 rfl rfl dX2_step_33 ?_
          refine lv_aload_n hx hb dX2_step_36 rfl (lv_at hl 0 rfl) ?_
          refine k_get (D := (dC, dI)) (ci := 2) (v := .int j21_F0_4) (C := RX2) (T := TX2) (N := 11) hx hb hts hinX2 hown hK hP 0 rfl rfl 4 (by decide) w_1 rfl rfl dX2_step_37 ?_
          refine va_iald hx hb hK hP 1 0 rfl rfl (iR_vp f_32_1 (by decide +kernel)) dX2_step_40 ?_
          have f_40_3 : iR (f0_0 j21_F0_4.toNatClampNeg) 0 255 := hf0_0 _
          refine lv_bipush (v := 32) hx hb dX2_step_41 (by decide +kernel) ?_
          refine lv_icmp_eq (tgt := 60) hx hb dX2_step_43 (by decide) (fun c_43 => ?_) (fun c_43 => ?_)
          · have c_43 : (f0_0 j21_F0_4.toNatClampNeg) = 32 := c_43
            have f_60_4 : iR (f0_0 j21_F0_4.toNatClampNeg) 32 32 := iR_eqL c_43 f_40_3 (iR_c (n := 32) (a := 32) (b := 32) (by decide +kernel) (by decide +kernel)) (by decide +kernel)
            refine lv_aload_n hx hb dX2_step_60 rfl (lv_at hl 0 rfl) ?_
            refine lv_dup hx hb dX2_step_61 rfl ?_
            refine k_get (D := (dC, dI)) (ci := 2) (v := .int j21_F0_4) (C := RX2) (T := TX2) (N := 11) hx hb hts hinX2 hown hK hP 0 rfl rfl 4 (by decide) w_1 rfl rfl dX2_step_62 ?_
            refine lv_iconst (v := 1) hx hb dX2_step_65 (by decide +kernel) ?_
            refine lv_iadd hx hb dX2_step_66 ?_
            refine lv_topi (fun y_66p43 ey_66p43 => ?_)
            have f_66p43_5 : iR y_66p43 1 1600 := iR_add ey_66p43 f_32_1 (iR_c (n := 1) (a := 1) (b := 1) (by decide +kernel) (by decide +kernel)) (by decide +kernel)
            refine k_put (D := (dC, dI)) (ci := 2) (v := .int y_66p43) (C := RX2) (T := TX2) (N := 11) (ws' := [(a0, .inr (2, [.ref a0_0, .ref a0_1, .ref b0_2, .int v0_3, .int y_66p43, .int v0_5, .int v0_6, .int v0_7, .int 0, .int v0_9, .int v0_10])), (a0_0, .inl (cI, 1600, .inl f0_0)), (a0_1, .inl (cJ, 25, .inr (.inl g0_1)))]) hx hb hts hinX2 tyX2 tyX2_ok nmX2 hown hK hP hD hS 0 rfl rfl 4 (by decide) w_1 rfl rfl rfl rfl (Nat.le_of_ble_eq_true rfl) rfl dX2_step_67 (fun H locs hP hD hS => ?_)
            refine lv_goto (tgt := 21) hx hb dX2_step_70 (by decide) ?_
            exact ih_21 y_66p43 (iR_w f_66p43_5 (by decide +kernel)) (show rn cB f0_0 v0_3.toNatClampNeg y_66p43.toNatClampNeg = rn cB f0_0 v0_3.toNatClampNeg v0_4.toNatClampNeg from (by rw [i_succ ey_66p43 f_32_1 (by decide +kernel), rn_s (i_ltN c_29 f_32_1 f_32_2 (by decide +kernel)) (cB_y (Or.inl c_43))]; exact p21_0)) (m_up (B := 1600) hm_21 ey_66p43 f_32_1 (by decide +kernel)) H locs ls hP hD hS (lv_sub hl [0, 1, 2] rfl)
          · have c_43 : ¬ (f0_0 j21_F0_4.toNatClampNeg) = 32 := c_43
            refine lv_aload_n hx hb dX2_step_46 rfl (lv_at hl 0 rfl) ?_
            refine k_get (D := (dC, dI)) (ci := 2) (v := .ref a0_0) (C := RX2) (T := TX2) (N := 11) hx hb hts hinX2 hown hK hP 0 rfl rfl 0 (by decide) w_5 rfl rfl dX2_step_47 ?_
            refine lv_aload_n hx hb dX2_step_50 rfl (lv_at hl 0 rfl) ?_
            refine k_get (D := (dC, dI)) (ci := 2) (v := .int j21_F0_4) (C := RX2) (T := TX2) (N := 11) hx hb hts hinX2 hown hK hP 0 rfl rfl 4 (by decide) w_1 rfl rfl dX2_step_51 ?_
            refine va_iald hx hb hK hP 1 0 rfl rfl (iR_vp f_32_1 (by decide +kernel)) dX2_step_54 ?_
            refine lv_bipush (v := 10) hx hb dX2_step_55 (by decide +kernel) ?_
            refine lv_icmp_ne (tgt := 73) hx hb dX2_step_57 (by decide) (fun c_57 => ?_) (fun c_57 => ?_)
            · have c_57 : ¬ (f0_0 j21_F0_4.toNatClampNeg) = 10 := c_57
              refine lv_aload_n hx hb dX2_step_73 rfl (lv_at hl 0 rfl) ?_
              refine lv_aload_n hx hb dX2_step_74 rfl (lv_at hl 0 rfl) ?_
              refine k_get (D := (dC, dI)) (ci := 2) (v := .int j21_F0_4) (C := RX2) (T := TX2) (N := 11) hx hb hts hinX2 hown hK hP 0 rfl rfl 4 (by decide) w_1 rfl rfl dX2_step_75 ?_
              refine k_put (D := (dC, dI)) (ci := 2) (v := .int j21_F0_4) (C := RX2) (T := TX2) (N := 11) (ws' := [(a0, .inr (2, [.ref a0_0, .ref a0_1, .ref b0_2, .int v0_3, .int j21_F0_4, .int j21_F0_4, .int v0_6, .int v0_7, .int 0, .int v0_9, .int v0_10])), (a0_0, .inl (cI, 1600, .inl f0_0)), (a0_1, .inl (cJ, 25, .inr (.inl g0_1)))]) hx hb hts hinX2 tyX2 tyX2_ok nmX2 hown hK hP hD hS 0 rfl rfl 5 (by decide) w_4 rfl rfl rfl rfl (Nat.le_of_ble_eq_true rfl) rfl dX2_step_78 (fun H locs hP hD hS => ?_)
              refine lv_aload_n hx hb dX2_step_81 rfl (lv_at hl 0 rfl) ?_
              refine k_get (D := (dC, dI)) (ci := 2) (v := .int j21_F0_4) (C := RX2) (T := TX2) (N := 11) hx hb hts hinX2 hown hK hP 0 rfl rfl 4 (by decide) w_1 rfl rfl dX2_step_82 ?_
              refine lv_aload_n hx hb dX2_step_85 rfl (lv_at hl 0 rfl) ?_
              refine k_get (D := (dC, dI)) (ci := 2) (v := .int v0_3) (C := RX2) (T := TX2) (N := 11) hx hb hts hinX2 hown hK hP 0 rfl rfl 3 (by decide) w_3 rfl rfl dX2_step_86 ?_
              refine lv_icmp_lt (tgt := 102) hx hb dX2_step_89 (by decide) (fun c_89p57 => ?_) (fun c_89p57 => ?_)
              · have c_89p57 : j21_F0_4 < v0_3 := c_89p57
                refine lv_aload_n hx hb dX2_step_102 rfl (lv_at hl 0 rfl) ?_
                refine k_get (D := (dC, dI)) (ci := 2) (v := .ref a0_0) (C := RX2) (T := TX2) (N := 11) hx hb hts hinX2 hown hK hP 0 rfl rfl 0 (by decide) w_5 rfl rfl dX2_step_103 ?_
                refine lv_aload_n hx hb dX2_step_106 rfl (lv_at hl 0 rfl) ?_
                refine k_get (D := (dC, dI)) (ci := 2) (v := .int j21_F0_4) (C := RX2) (T := TX2) (N := 11) hx hb hts hinX2 hown hK hP 0 rfl rfl 4 (by decide) w_1 rfl rfl dX2_step_107 ?_
                refine va_iald hx hb hK hP 1 0 rfl rfl (iR_vp f_32_1 (by decide +kernel)) dX2_step_110 ?_
                refine k_ci (wc := []) (wr := [(a0, .inr (2, [.ref a0_0, .ref a0_1, .ref b0_2, .int v0_3, .int j21_F0_4, .int j21_F0_4, .int v0_6, .int v0_7, .int 0, .int v0_9, .int v0_10])), (a0_0, .inl (cI, 1600, .inl f0_0)), (a0_1, .inl (cJ, 25, .inr (.inl g0_1)))]) (fun hPc hDc hFc => va_runS (As := [.int (f0_0 j21_F0_4.toNatClampNeg)]) (rest := []) ⟨hx, hb, hml, hown, hts⟩ (s_X2_isLetter_v0 l dC dI cI cJ cZ cM (f0_0 j21_F0_4.toNatClampNeg) H.size) (va_cwS 1 hts gX2_step_X2_isLetter rfl rfl rfl (by decide +kernel) ⟨(Nat.le_of_ble_eq_true rfl), (Nat.le_of_ble_eq_true rfl)⟩) (k_pS hPc hDc hK hN hC hS hFc) rfl rfl hl.1 rfl (lv_room (Nat.le_of_ble_eq_true rfl)) dX2_step_111 ⟨(Nat.le_of_ble_eq_true rfl), (Nat.le_of_ble_eq_true rfl)⟩) hP hD hS hA [] [0, 1, 2] rfl rfl rfl rfl (by decide) (fun _ => rfl) 0 0 rfl rfl (fun r_111p57 u_111p57 H locs hw hP hD hS => ?_)
                obtain ⟨g_111p57_0, g_111p57_1⟩ := hw
                have hP : va_P (dC, dI) vwCl [(a0, .inr (2, [.ref a0_0, .ref a0_1, .ref b0_2, .int v0_3, .int j21_F0_4, .int j21_F0_4, .int v0_6, .int v0_7, .int 0, .int v0_9, .int v0_10])), (a0_0, .inl (cI, 1600, .inl f0_0)), (a0_1, .inl (cJ, 25, .inr (.inl g0_1)))] H := hP
                have hD : va_D A [(a0, .inr (2, [.ref a0_0, .ref a0_1, .ref b0_2, .int v0_3, .int j21_F0_4, .int j21_F0_4, .int v0_6, .int v0_7, .int 0, .int v0_9, .int v0_10])), (a0_0, .inl (cI, 1600, .inl f0_0)), (a0_1, .inl (cJ, 25, .inr (.inl g0_1)))] := hD
                have g_111p57_1 : r_111p57 = bI (cL (f0_0 j21_F0_4.toNatClampNeg)) := g_111p57_1
                refine lv_if_eq (tgt := 124) hx hb dX2_step_114 (by decide) (fun c_114p57 => ?_) (fun c_114p57 => ?_)
                · have c_114p57 : r_111p57 = 0 := c_114p57
                  have f_124p57_4 : iR r_111p57 0 0 := iR_eqL c_114p57 g_111p57_0 (iR_c (n := 0) (a := 0) (b := 0) (by decide +kernel) (by decide +kernel)) (by decide +kernel)
                  refine lv_aload_n hx hb dX2_step_124 rfl (lv_at hl 0 rfl) ?_
                  refine k_get (D := (dC, dI)) (ci := 2) (v := .ref a0_0) (C := RX2) (T := TX2) (N := 11) hx hb hts hinX2 hown hK hP 0 rfl rfl 0 (by decide) w_5 rfl rfl dX2_step_125 ?_
                  refine lv_aload_n hx hb dX2_step_128 rfl (lv_at hl 0 rfl) ?_
                  refine k_get (D := (dC, dI)) (ci := 2) (v := .int j21_F0_4) (C := RX2) (T := TX2) (N := 11) hx hb hts hinX2 hown hK hP 0 rfl rfl 4 (by decide) w_1 rfl rfl dX2_step_129 ?_
                  refine va_iald hx hb hK hP 1 0 rfl rfl (iR_vp f_32_1 (by decide +kernel)) dX2_step_132 ?_
                  refine k_ci (wc := []) (wr := [(a0, .inr (2, [.ref a0_0, .ref a0_1, .ref b0_2, .int v0_3, .int j21_F0_4, .int j21_F0_4, .int v0_6, .int v0_7, .int 0, .int v0_9, .int v0_10])), (a0_0, .inl (cI, 1600, .inl f0_0)), (a0_1, .inl (cJ, 25, .inr (.inl g0_1)))]) (fun hPc hDc hFc => va_runS (As := [.int (f0_0 j21_F0_4.toNatClampNeg)]) (rest := []) ⟨hx, hb, hml, hown, hts⟩ (s_X2_isDigit_v0 l dC dI cI cJ cZ cM (f0_0 j21_F0_4.toNatClampNeg) H.size) (va_cwS 1 hts gX2_step_X2_isDigit rfl rfl rfl (by decide +kernel) ⟨(Nat.le_of_ble_eq_true rfl), (Nat.le_of_ble_eq_true rfl)⟩) (k_pS hPc hDc hK hN hC hS hFc) rfl rfl hl.1 rfl (lv_room (Nat.le_of_ble_eq_true rfl)) dX2_step_133 ⟨(Nat.le_of_ble_eq_true rfl), (Nat.le_of_ble_eq_true rfl)⟩) hP hD hS hA [] [0, 1, 2] rfl rfl rfl rfl (by decide) (fun _ => rfl) 0 0 rfl rfl (fun r_133p57 u_133p57 H locs hw hP hD hS => ?_)
                  obtain ⟨g_133p57_0, g_133p57_1⟩ := hw
                  have hP : va_P (dC, dI) vwCl [(a0, .inr (2, [.ref a0_0, .ref a0_1, .ref b0_2, .int v0_3, .int j21_F0_4, .int j21_F0_4, .int v0_6, .int v0_7, .int 0, .int v0_9, .int v0_10])), (a0_0, .inl (cI, 1600, .inl f0_0)), (a0_1, .inl (cJ, 25, .inr (.inl g0_1)))] H := hP
                  have hD : va_D A [(a0, .inr (2, [.ref a0_0, .ref a0_1, .ref b0_2, .int v0_3, .int j21_F0_4, .int j21_F0_4, .int v0_6, .int v0_7, .int 0, .int v0_9, .int v0_10])), (a0_0, .inl (cI, 1600, .inl f0_0)), (a0_1, .inl (cJ, 25, .inr (.inl g0_1)))] := hD
                  have g_133p57_1 : r_133p57 = bI (cD (f0_0 j21_F0_4.toNatClampNeg)) := g_133p57_1
                  refine lv_if_eq (tgt := 146) hx hb dX2_step_136 (by decide) (fun c_136p57 => ?_) (fun c_136p57 => ?_)
                  · have c_136p57 : r_133p57 = 0 := c_136p57
                    have f_146p57_5 : iR r_133p57 0 0 := iR_eqL c_136p57 g_133p57_0 (iR_c (n := 0) (a := 0) (b := 0) (by decide +kernel) (by decide +kernel)) (by decide +kernel)
                    refine lv_aload_n hx hb dX2_step_146 rfl (lv_at hl 0 rfl) ?_
                    refine lv_aload_n hx hb dX2_step_147 rfl (lv_at hl 0 rfl) ?_
                    refine k_get (D := (dC, dI)) (ci := 2) (v := .ref a0_0) (C := RX2) (T := TX2) (N := 11) hx hb hts hinX2 hown hK hP 0 rfl rfl 0 (by decide) w_5 rfl rfl dX2_step_148 ?_
                    refine lv_aload_n hx hb dX2_step_151 rfl (lv_at hl 0 rfl) ?_
                    refine k_get (D := (dC, dI)) (ci := 2) (v := .int j21_F0_4) (C := RX2) (T := TX2) (N := 11) hx hb hts hinX2 hown hK hP 0 rfl rfl 4 (by decide) w_1 rfl rfl dX2_step_152 ?_
                    refine va_iald hx hb hK hP 1 0 rfl rfl (iR_vp f_32_1 (by decide +kernel)) dX2_step_155 ?_
                    refine k_put (D := (dC, dI)) (ci := 2) (v := .int (f0_0 j21_F0_4.toNatClampNeg)) (C := RX2) (T := TX2) (N := 11) (ws' := [(a0, .inr (2, [.ref a0_0, .ref a0_1, .ref b0_2, .int v0_3, .int j21_F0_4, .int j21_F0_4, .int (f0_0 j21_F0_4.toNatClampNeg), .int v0_7, .int 0, .int v0_9, .int v0_10])), (a0_0, .inl (cI, 1600, .inl f0_0)), (a0_1, .inl (cJ, 25, .inr (.inl g0_1)))]) hx hb hts hinX2 tyX2 tyX2_ok nmX2 hown hK hP hD hS 0 rfl rfl 6 (by decide) w_2 rfl rfl rfl rfl (Nat.le_of_ble_eq_true rfl) rfl dX2_step_156 (fun H locs hP hD hS => ?_)
                    refine lv_aload_n hx hb dX2_step_159 rfl (lv_at hl 0 rfl) ?_
                    refine lv_dup hx hb dX2_step_160 rfl ?_
                    refine k_get (D := (dC, dI)) (ci := 2) (v := .int j21_F0_4) (C := RX2) (T := TX2) (N := 11) hx hb hts hinX2 hown hK hP 0 rfl rfl 4 (by decide) w_1 rfl rfl dX2_step_161 ?_
                    refine lv_iconst (v := 1) hx hb dX2_step_164 (by decide +kernel) ?_
                    refine lv_iadd hx hb dX2_step_165 ?_
                    refine lv_topi (fun y_165p57 ey_165p57 => ?_)
                    have f_165p57_6 : iR y_165p57 1 1600 := iR_add ey_165p57 f_32_1 (iR_c (n := 1) (a := 1) (b := 1) (by decide +kernel) (by decide +kernel)) (by decide +kernel)
                    refine k_put (D := (dC, dI)) (ci := 2) (v := .int y_165p57) (C := RX2) (T := TX2) (N := 11) (ws' := [(a0, .inr (2, [.ref a0_0, .ref a0_1, .ref b0_2, .int v0_3, .int y_165p57, .int j21_F0_4, .int (f0_0 j21_F0_4.toNatClampNeg), .int v0_7, .int 0, .int v0_9, .int v0_10])), (a0_0, .inl (cI, 1600, .inl f0_0)), (a0_1, .inl (cJ, 25, .inr (.inl g0_1)))]) hx hb hts hinX2 tyX2 tyX2_ok nmX2 hown hK hP hD hS 0 rfl rfl 4 (by decide) w_1 rfl rfl rfl rfl (Nat.le_of_ble_eq_true rfl) rfl dX2_step_166 (fun H locs hP hD hS => ?_)
                    refine lv_iload_n hx hb dX2_step_169 rfl (lv_at hl 2 rfl) ?_
                    refine lv_if_eq (tgt := 200) hx hb dX2_step_170 (by decide) (fun c_170p57p166 => ?_) (fun c_170p57p166 => ?_)
                    · have c_170p57p166 : r_17 = 0 := c_170p57p166
                      have f_200p57p166_7 : iR r_17 0 0 := iR_eqL c_170p57p166 g_17_0 (iR_c (n := 0) (a := 0) (b := 0) (by decide +kernel) (by decide +kernel)) (by decide +kernel)
                      exact k_rv B hP hD hS dX2_step_200 ((fun k9 => match k9 with | 0 => y_165p57 | 1 => j21_F0_4 | 2 => (f0_0 j21_F0_4.toNatClampNeg) | 3 => v0_7 | 4 => v0_9 | 5 => v0_10 | _ => 0), (fun _ => 0), (fun _ => (fun _ => 0)), (fun _ => (fun _ => 0)), (fun _ => 0)) [0, 1, 2] rfl rfl (Nat.le_of_ble_eq_true rfl) (Nat.le_of_ble_eq_true rfl) ⟨(show iR y_165p57 0 1600 from (iR_w f_165p57_6 (by decide +kernel))), (show iR j21_F0_4 0 1600 from (iR_w f_32_1 (by decide +kernel))), (show iR (f0_0 j21_F0_4.toNatClampNeg) 0 324 from (iR_w f_40_3 (by decide +kernel))), (show iR v0_9 0 6 from (iR_w f_8_1 (by decide +kernel))), (show XTS f0_0 g0_1 v0_3.toNatClampNeg v0_4 v0_6 v0_7 v0_9 v0_10 y_165p57 j21_F0_4 (f0_0 j21_F0_4.toNatClampNeg) v0_7 v0_9 v0_10 from (Or.inr ⟨c_4, (rn_e (Or.inr (cB_n c_43 c_57))).symm.trans p21_0, (f0_0 j21_F0_4.toNatClampNeg), v0_9, v0_10, Or.inr (Or.inr (Or.inr ⟨(i_ltN c_89p57 f_32_1 f_32_2 (by decide +kernel)), (bI_f g_111p57_1 c_114p57), (bI_f g_133p57_1 c_136p57), ey_165p57, rfl, rfl, c_4, rfl⟩)), Or.inr ⟨fun q9 => absurd (q9.1.symm.trans (bI_f g_17_1 c_170p57p166)) (by decide), rfl, rfl, rfl⟩⟩)), (show (0 : Int32) < v0_9 → (0 : Int32) < v0_9 from (fun h => h)), (show (v0_9 = 0) ∨ (((f0_0 j21_F0_4.toNatClampNeg) = 259)) from (Or.inl c_4))⟩
                    · have c_170p57p166 : ¬ r_17 = 0 := c_170p57p166
                      have f_173p57p166_7 : iR r_17 1 1 := iR_neL c_170p57p166 g_17_0 (iR_c (n := 0) (a := 0) (b := 0) (by decide +kernel) (by decide +kernel)) (by decide +kernel)
                      refine lv_aload_n hx hb dX2_step_173 rfl (lv_at hl 0 rfl) ?_
                      refine k_get (D := (dC, dI)) (ci := 2) (v := .int j21_F0_4) (C := RX2) (T := TX2) (N := 11) hx hb hts hinX2 hown hK hP 0 rfl rfl 5 (by decide) w_4 rfl rfl dX2_step_174 ?_
                      refine lv_iload_n hx hb dX2_step_177 rfl (lv_at hl 1 rfl) ?_
                      refine lv_icmp_ne (tgt := 200) hx hb dX2_step_178 (by decide) (fun c_178p57p166 => ?_) (fun c_178p57p166 => ?_)
                      · have c_178p57p166 : ¬ j21_F0_4 = v0_4 := c_178p57p166
                        exact k_rv B hP hD hS dX2_step_200 ((fun k9 => match k9 with | 0 => y_165p57 | 1 => j21_F0_4 | 2 => (f0_0 j21_F0_4.toNatClampNeg) | 3 => v0_7 | 4 => v0_9 | 5 => v0_10 | _ => 0), (fun _ => 0), (fun _ => (fun _ => 0)), (fun _ => (fun _ => 0)), (fun _ => 0)) [0, 1, 2] rfl rfl (Nat.le_of_ble_eq_true rfl) (Nat.le_of_ble_eq_true rfl) ⟨(show iR y_165p57 0 1600 from (iR_w f_165p57_6 (by decide +kernel))), (show iR j21_F0_4 0 1600 from (iR_w f_32_1 (by decide +kernel))), (show iR (f0_0 j21_F0_4.toNatClampNeg) 0 324 from (iR_w f_40_3 (by decide +kernel))), (show iR v0_9 0 6 from (iR_w f_8_1 (by decide +kernel))), (show XTS f0_0 g0_1 v0_3.toNatClampNeg v0_4 v0_6 v0_7 v0_9 v0_10 y_165p57 j21_F0_4 (f0_0 j21_F0_4.toNatClampNeg) v0_7 v0_9 v0_10 from (Or.inr ⟨c_4, (rn_e (Or.inr (cB_n c_43 c_57))).symm.trans p21_0, (f0_0 j21_F0_4.toNatClampNeg), v0_9, v0_10, Or.inr (Or.inr (Or.inr ⟨(i_ltN c_89p57 f_32_1 f_32_2 (by decide +kernel)), (bI_f g_111p57_1 c_114p57), (bI_f g_133p57_1 c_136p57), ey_165p57, rfl, rfl, c_4, rfl⟩)), Or.inr ⟨fun q9 => c_178p57p166 q9.2.1, rfl, rfl, rfl⟩⟩)), (show (0 : Int32) < v0_9 → (0 : Int32) < v0_9 from (fun h => h)), (show (v0_9 = 0) ∨ (((f0_0 j21_F0_4.toNatClampNeg) = 259)) from (Or.inl c_4))⟩
                      · have c_178p57p166 : j21_F0_4 = v0_4 := c_178p57p166
                        have f_181p57p166_8 : iR v0_4 0 1599 := iR_eqR c_178p57p166 f_32_1 hv0_4 (by decide +kernel)
                        refine lv_aload_n hx hb dX2_step_181 rfl (lv_at hl 0 rfl) ?_
                        refine k_get (D := (dC, dI)) (ci := 2) (v := .int (f0_0 j21_F0_4.toNatClampNeg)) (C := RX2) (T := TX2) (N := 11) hx hb hts hinX2 hown hK hP 0 rfl rfl 6 (by decide) w_2 rfl rfl dX2_step_182 ?_
                        refine k_ci (wc := []) (wr := [(a0, .inr (2, [.ref a0_0, .ref a0_1, .ref b0_2, .int v0_3, .int y_165p57, .int j21_F0_4, .int (f0_0 j21_F0_4.toNatClampNeg), .int v0_7, .int 0, .int v0_9, .int v0_10])), (a0_0, .inl (cI, 1600, .inl f0_0)), (a0_1, .inl (cJ, 25, .inr (.inl g0_1)))]) (fun hPc hDc hFc => va_runS (As := [.int (f0_0 j21_F0_4.toNatClampNeg)]) (rest := []) ⟨hx, hb, hml, hown, hts⟩ (s_X2_isWhole_v0 l dC dI cI cJ cZ cM (f0_0 j21_F0_4.toNatClampNeg) H.size) (va_cwS 1 hts gX2_step_X2_isWhole rfl rfl rfl (by decide +kernel) ⟨(Nat.le_of_ble_eq_true rfl), (Nat.le_of_ble_eq_true rfl)⟩) (k_pS hPc hDc hK hN hC hS hFc) rfl rfl hl.1 rfl (lv_room (Nat.le_of_ble_eq_true rfl)) dX2_step_185 ⟨(Nat.le_of_ble_eq_true rfl), (Nat.le_of_ble_eq_true rfl)⟩) hP hD hS hA [] [0, 1, 2] rfl rfl rfl rfl (by decide) (fun _ => rfl) 0 0 rfl rfl (fun r_185p57p166 u_185p57p166 H locs hw hP hD hS => ?_)
                        obtain ⟨g_185p57p166_0, g_185p57p166_1⟩ := hw
                        have hP : va_P (dC, dI) vwCl [(a0, .inr (2, [.ref a0_0, .ref a0_1, .ref b0_2, .int v0_3, .int y_165p57, .int j21_F0_4, .int (f0_0 j21_F0_4.toNatClampNeg), .int v0_7, .int 0, .int v0_9, .int v0_10])), (a0_0, .inl (cI, 1600, .inl f0_0)), (a0_1, .inl (cJ, 25, .inr (.inl g0_1)))] H := hP
                        have hD : va_D A [(a0, .inr (2, [.ref a0_0, .ref a0_1, .ref b0_2, .int v0_3, .int y_165p57, .int j21_F0_4, .int (f0_0 j21_F0_4.toNatClampNeg), .int v0_7, .int 0, .int v0_9, .int v0_10])), (a0_0, .inl (cI, 1600, .inl f0_0)), (a0_1, .inl (cJ, 25, .inr (.inl g0_1)))] := hD
                        have g_185p57p166_1 : r_185p57p166 = bI (wh (f0_0 j21_F0_4.toNatClampNeg)) := g_185p57p166_1
                        refine lv_if_eq (tgt := 200) hx hb dX2_step_188 (by decide) (fun c_188p57p166 => ?_) (fun c_188p57p166 => ?_)
                        · have c_188p57p166 : r_185p57p166 = 0 := c_188p57p166
                          have f_200p57p166_9 : iR r_185p57p166 0 0 := iR_eqL c_188p57p166 g_185p57p166_0 (iR_c (n := 0) (a := 0) (b := 0) (by decide +kernel) (by decide +kernel)) (by decide +kernel)
                          exact k_rv B hP hD hS dX2_step_200 ((fun k9 => match k9 with | 0 => y_165p57 | 1 => j21_F0_4 | 2 => (f0_0 j21_F0_4.toNatClampNeg) | 3 => v0_7 | 4 => v0_9 | 5 => v0_10 | _ => 0), (fun _ => 0), (fun _ => (fun _ => 0)), (fun _ => (fun _ => 0)), (fun _ => 0)) [0, 1, 2] rfl rfl (Nat.le_of_ble_eq_true rfl) (Nat.le_of_ble_eq_true rfl) ⟨(show iR y_165p57 0 1600 from (iR_w f_165p57_6 (by decide +kernel))), (show iR j21_F0_4 0 1600 from (iR_w f_32_1 (by decide +kernel))), (show iR (f0_0 j21_F0_4.toNatClampNeg) 0 324 from (iR_w f_40_3 (by decide +kernel))), (show iR v0_9 0 6 from (iR_w f_8_1 (by decide +kernel))), (show XTS f0_0 g0_1 v0_3.toNatClampNeg v0_4 v0_6 v0_7 v0_9 v0_10 y_165p57 j21_F0_4 (f0_0 j21_F0_4.toNatClampNeg) v0_7 v0_9 v0_10 from (Or.inr ⟨c_4, (rn_e (Or.inr (cB_n c_43 c_57))).symm.trans p21_0, (f0_0 j21_F0_4.toNatClampNeg), v0_9, v0_10, Or.inr (Or.inr (Or.inr ⟨(i_ltN c_89p57 f_32_1 f_32_2 (by decide +kernel)), (bI_f g_111p57_1 c_114p57), (bI_f g_133p57_1 c_136p57), ey_165p57, rfl, rfl, c_4, rfl⟩)), Or.inr ⟨fun q9 => absurd (q9.2.2.symm.trans (bI_f g_185p57p166_1 c_188p57p166)) (by decide), rfl, rfl, rfl⟩⟩)), (show (0 : Int32) < v0_9 → (0 : Int32) < v0_9 from (fun h => h)), (show (v0_9 = 0) ∨ (((f0_0 j21_F0_4.toNatClampNeg) = 259)) from (Or.inl c_4))⟩
                        · have c_188p57p166 : ¬ r_185p57p166 = 0 := c_188p57p166
                          have f_191p57p166_9 : iR r_185p57p166 1 1 := iR_neL c_188p57p166 g_185p57p166_0 (iR_c (n := 0) (a := 0) (b := 0) (by decide +kernel) (by decide +kernel)) (by decide +kernel)
                          refine lv_aload_n hx hb dX2_step_191 rfl (lv_at hl 0 rfl) ?_
                          refine lv_iconst (v := 1) hx hb dX2_step_192 (by decide +kernel) ?_
                          refine lv_aload_n hx hb dX2_step_193 rfl (lv_at hl 0 rfl) ?_
                          refine k_get (D := (dC, dI)) (ci := 2) (v := .int j21_F0_4) (C := RX2) (T := TX2) (N := 11) hx hb hts hinX2 hown hK hP 0 rfl rfl 5 (by decide) w_4 rfl rfl dX2_step_194 ?_
                          refine k_cv (wc := [(a0, .inr (2, [.ref a0_0, .ref a0_1, .ref b0_2, .int v0_3, .int y_165p57, .int j21_F0_4, .int (f0_0 j21_F0_4.toNatClampNeg), .int v0_7, .int 0, .int v0_9, .int v0_10]))]) (wr := [(a0_0, .inl (cI, 1600, .inl f0_0)), (a0_1, .inl (cJ, 25, .inr (.inl g0_1)))]) (fun hPc hDc hFc => va_runV (As := [.int 1, .int j21_F0_4]) (rest := []) ⟨hx, hb, hml, hown, hts⟩ (s_X2_blame_v2 l dC dI cI cJ cZ cM a0 1 j21_F0_4 a0_0 a0_1 b0_2 v0_3 y_165p57 j21_F0_4 (f0_0 j21_F0_4.toNatClampNeg) v0_7 v0_9 v0_10 (iR_c (n := 1) (a := 1) (b := 6) (by decide +kernel) (by decide +kernel)) (iR_w f_32_2 (by decide +kernel)) (iR_w f_165p57_6 (by decide +kernel)) (iR_w f_32_1 (by decide +kernel)) (iR_w f_40_3 (by decide +kernel)) (iR_w f_8_1 (by decide +kernel)) (Or.inl c_4) H.size) (cwV 2 hts gX2_step_X2_blame rfl rfl rfl (by decide +kernel) ⟨(Nat.le_of_ble_eq_true rfl), (Nat.le_of_ble_eq_true rfl)⟩) (k_pV hPc hDc hK hN hC hS hFc hP (q0 := 0) (ci := 2) rfl rfl) rfl rfl hl.1 rfl (lv_room (Nat.le_of_ble_eq_true rfl)) dX2_step_197 ⟨(Nat.le_of_ble_eq_true rfl), (Nat.le_of_ble_eq_true rfl)⟩) hP hD hS hA [0] [1, 2] rfl rfl rfl rfl (by decide) (fun _ => rfl) 0 0 rfl rfl (fun u_197p57p166 H locs hw hP hD hS => ?_)
                          obtain ⟨g_197p57p166_0, g_197p57p166_1, g_197p57p166_2, g_197p57p166_3, g_197p57p166_4⟩ := hw
                          have hP : va_P (dC, dI) vwCl [(a0_0, .inl (cI, 1600, .inl f0_0)), (a0_1, .inl (cJ, 25, .inr (.inl g0_1))), (a0, .inr (2, [.ref a0_0, .ref a0_1, .ref b0_2, .int v0_3, .int y_165p57, .int j21_F0_4, .int (u_197p57p166.1 0), .int v0_7, .int 0, .int (u_197p57p166.1 1), .int (u_197p57p166.1 2)]))] H := hP
                          have hD : va_D A [(a0_0, .inl (cI, 1600, .inl f0_0)), (a0_1, .inl (cJ, 25, .inr (.inl g0_1))), (a0, .inr (2, [.ref a0_0, .ref a0_1, .ref b0_2, .int v0_3, .int y_165p57, .int j21_F0_4, .int (u_197p57p166.1 0), .int v0_7, .int 0, .int (u_197p57p166.1 1), .int (u_197p57p166.1 2)]))] := hD
                          have g_197p57p166_2 : BL (f0_0 j21_F0_4.toNatClampNeg) v0_9 v0_10 1 j21_F0_4 (u_197p57p166.1 0) (u_197p57p166.1 1) (u_197p57p166.1 2) := g_197p57p166_2
                          have g_197p57p166_3 : (0 : Int32) < v0_9 → (0 : Int32) < (u_197p57p166.1 1) := g_197p57p166_3
                          have g_197p57p166_4 : ((u_197p57p166.1 1) = 0) ∨ (((u_197p57p166.1 0) = 259)) := g_197p57p166_4
                          obtain d197p57p166_1_0 := g_197p57p166_4.resolve_left (i_nef g_197p57p166_1 (iR_c (n := 0) (a := 0) (b := 0) (by decide +kernel) (by decide +kernel)) (by decide +kernel))
                          exact k_rv B hP hD hS dX2_step_200 ((fun k9 => match k9 with | 0 => y_165p57 | 1 => j21_F0_4 | 2 => (u_197p57p166.1 0) | 3 => v0_7 | 4 => (u_197p57p166.1 1) | 5 => (u_197p57p166.1 2) | _ => 0), (fun _ => 0), (fun _ => (fun _ => 0)), (fun _ => (fun _ => 0)), (fun _ => 0)) [2, 0, 1] rfl rfl (Nat.le_of_ble_eq_true rfl) (Nat.le_of_ble_eq_true rfl) ⟨(show iR y_165p57 0 1600 from (iR_w f_165p57_6 (by decide +kernel))), (show iR j21_F0_4 0 1600 from (iR_w f_32_1 (by decide +kernel))), (show iR (u_197p57p166.1 0) 0 324 from (iR_w g_197p57p166_0 (by decide +kernel))), (show iR (u_197p57p166.1 1) 0 6 from (iR_w g_197p57p166_1 (by decide +kernel))), (show XTS f0_0 g0_1 v0_3.toNatClampNeg v0_4 v0_6 v0_7 v0_9 v0_10 y_165p57 j21_F0_4 (u_197p57p166.1 0) v0_7 (u_197p57p166.1 1) (u_197p57p166.1 2) from (Or.inr ⟨c_4, (rn_e (Or.inr (cB_n c_43 c_57))).symm.trans p21_0, (f0_0 j21_F0_4.toNatClampNeg), v0_9, v0_10, Or.inr (Or.inr (Or.inr ⟨(i_ltN c_89p57 f_32_1 f_32_2 (by decide +kernel)), (bI_f g_111p57_1 c_114p57), (bI_f g_133p57_1 c_136p57), ey_165p57, rfl, rfl, c_4, rfl⟩)), Or.inl ⟨(bI_t g_17_1 c_170p57p166), c_178p57p166, (bI_t g_185p57p166_1 c_188p57p166), g_197p57p166_2⟩⟩)), (show (0 : Int32) < v0_9 → (0 : Int32) < (u_197p57p166.1 1) from (fun h => g_197p57p166_3 ((fun h => h) h))), (show ((u_197p57p166.1 1) = 0) ∨ (((u_197p57p166.1 0) = 259)) from (Or.inr d197p57p166_1_0))⟩
                  · have c_136p57 : ¬ r_133p57 = 0 := c_136p57
                    have f_139p57_5 : iR r_133p57 1 1 := iR_neL c_136p57 g_133p57_0 (iR_c (n := 0) (a := 0) (b := 0) (by decide +kernel) (by decide +kernel)) (by decide +kernel)
                    refine lv_aload_n hx hb dX2_step_139 rfl (lv_at hl 0 rfl) ?_
                    refine k_cv (wc := [(a0, .inr (2, [.ref a0_0, .ref a0_1, .ref b0_2, .int v0_3, .int j21_F0_4, .int j21_F0_4, .int v0_6, .int v0_7, .int 0, .int v0_9, .int v0_10])), (a0_0, .inl (cI, 1600, .inl f0_0))]) (wr := [(a0_1, .inl (cJ, 25, .inr (.inl g0_1)))]) (fun hPc hDc hFc => va_runV (As := []) (rest := []) ⟨hx, hb, hml, hown, hts⟩ (s_X2_readNumber_v1 l dC dI cI cJ cZ cM a0 a0_0 f0_0 a0_1 b0_2 v0_3 j21_F0_4 j21_F0_4 v0_6 v0_7 v0_9 v0_10 (show iR v0_9 0 0 from f_8_1) (iR_w f_32_2 (by decide +kernel)) (iR_w f_32_1 (by decide +kernel)) (iR_w f_32_1 (by decide +kernel)) hv0_6 (iR_w f_8_1 (by decide +kernel)) hf0_0 hpg0 rfl H.size) (cwV 0 hts gX2_step_X2_readNumber rfl rfl rfl (by decide +kernel) ⟨(Nat.le_of_ble_eq_true rfl), (Nat.le_of_ble_eq_true rfl)⟩) (k_pV hPc hDc hK hN hC hS hFc hP (q0 := 0) (ci := 2) rfl rfl) rfl rfl hl.1 rfl (lv_room (Nat.le_of_ble_eq_true rfl)) dX2_step_140 ⟨(Nat.le_of_ble_eq_true rfl), (Nat.le_of_ble_eq_true rfl)⟩) hP hD hS hA [0, 1] [2] rfl rfl rfl rfl (by decide) (fun _ => rfl) 0 0 rfl rfl (fun u_140p57 H locs hw hP hD hS => ?_)
                    obtain ⟨g_140p57_0, g_140p57_1, g_140p57_2, g_140p57_3, g_140p57_4, g_140p57_5⟩ := hw
                    have hP : va_P (dC, dI) vwCl [(a0_1, .inl (cJ, 25, .inr (.inl g0_1))), (a0, .inr (2, [.ref a0_0, .ref a0_1, .ref b0_2, .int v0_3, .int (u_140p57.1 0), .int j21_F0_4, .int (u_140p57.1 1), .int (u_140p57.1 2), .int 0, .int (u_140p57.1 3), .int (u_140p57.1 4)])), (a0_0, .inl (cI, 1600, .inl f0_0))] H := hP
                    have hD : va_D A [(a0_1, .inl (cJ, 25, .inr (.inl g0_1))), (a0, .inr (2, [.ref a0_0, .ref a0_1, .ref b0_2, .int v0_3, .int (u_140p57.1 0), .int j21_F0_4, .int (u_140p57.1 1), .int (u_140p57.1 2), .int 0, .int (u_140p57.1 3), .int (u_140p57.1 4)])), (a0_0, .inl (cI, 1600, .inl f0_0))] := hD
                    have g_140p57_3 : XN f0_0 v0_3.toNatClampNeg j21_F0_4 v0_7 v0_10 (u_140p57.1 0) (u_140p57.1 1) (u_140p57.1 2) (u_140p57.1 3) (u_140p57.1 4) := g_140p57_3
                    have g_140p57_4 : (0 : Int32) < v0_9 → (0 : Int32) < (u_140p57.1 3) := g_140p57_4
                    have g_140p57_5 : ((u_140p57.1 3) = 0) ∨ (((u_140p57.1 1) = 259)) := g_140p57_5
                    refine lv_goto (tgt := 169) hx hb dX2_step_143 (by decide) ?_
                    refine lv_iload_n hx hb dX2_step_169 rfl (lv_at hl 2 rfl) ?_
                    refine lv_if_eq (tgt := 200) hx hb dX2_step_170 (by decide) (fun c_170p57p143 => ?_) (fun c_170p57p143 => ?_)
                    · have c_170p57p143 : r_17 = 0 := c_170p57p143
                      have f_200p57p143_6 : iR r_17 0 0 := iR_eqL c_170p57p143 g_17_0 (iR_c (n := 0) (a := 0) (b := 0) (by decide +kernel) (by decide +kernel)) (by decide +kernel)
                      exact k_rv B hP hD hS dX2_step_200 ((fun k9 => match k9 with | 0 => (u_140p57.1 0) | 1 => j21_F0_4 | 2 => (u_140p57.1 1) | 3 => (u_140p57.1 2) | 4 => (u_140p57.1 3) | 5 => (u_140p57.1 4) | _ => 0), (fun _ => 0), (fun _ => (fun _ => 0)), (fun _ => (fun _ => 0)), (fun _ => 0)) [1, 2, 0] rfl rfl (Nat.le_of_ble_eq_true rfl) (Nat.le_of_ble_eq_true rfl) ⟨(show iR (u_140p57.1 0) 0 1600 from g_140p57_0), (show iR j21_F0_4 0 1600 from (iR_w f_32_1 (by decide +kernel))), (show iR (u_140p57.1 1) 0 324 from (iR_w g_140p57_1 (by decide +kernel))), (show iR (u_140p57.1 3) 0 6 from g_140p57_2), (show XTS f0_0 g0_1 v0_3.toNatClampNeg v0_4 v0_6 v0_7 v0_9 v0_10 (u_140p57.1 0) j21_F0_4 (u_140p57.1 1) (u_140p57.1 2) (u_140p57.1 3) (u_140p57.1 4) from (Or.inr ⟨c_4, (rn_e (Or.inr (cB_n c_43 c_57))).symm.trans p21_0, (u_140p57.1 1), (u_140p57.1 3), (u_140p57.1 4), Or.inr (Or.inr (Or.inl ⟨(i_ltN c_89p57 f_32_1 f_32_2 (by decide +kernel)), (bI_f g_111p57_1 c_114p57), (bI_t g_133p57_1 c_136p57), g_140p57_3⟩)), Or.inr ⟨fun q9 => absurd (q9.1.symm.trans (bI_f g_17_1 c_170p57p143)) (by decide), rfl, rfl, rfl⟩⟩)), (show (0 : Int32) < v0_9 → (0 : Int32) < (u_140p57.1 3) from (fun h => g_140p57_4 ((fun h => h) h))), (show ((u_140p57.1 3) = 0) ∨ (((u_140p57.1 1) = 259)) from g_140p57_5)⟩
                    · have c_170p57p143 : ¬ r_17 = 0 := c_170p57p143
                      have f_173p57p143_6 : iR r_17 1 1 := iR_neL c_170p57p143 g_17_0 (iR_c (n := 0) (a := 0) (b := 0) (by decide +kernel) (by decide +kernel)) (by decide +kernel)
                      refine lv_aload_n hx hb dX2_step_173 rfl (lv_at hl 0 rfl) ?_
                      refine k_get (D := (dC, dI)) (ci := 2) (v := .int j21_F0_4) (C := RX2) (T := TX2) (N := 11) hx hb hts hinX2 hown hK hP 1 rfl rfl 5 (by decide) w_4 rfl rfl dX2_step_174 ?_
                      refine lv_iload_n hx hb dX2_step_177 rfl (lv_at hl 1 rfl) ?_
                      refine lv_icmp_ne (tgt := 200) hx hb dX2_step_178 (by decide) (fun c_178p57p143 => ?_) (fun c_178p57p143 => ?_)
                      · have c_178p57p143 : ¬ j21_F0_4 = v0_4 := c_178p57p143
                        exact k_rv B hP hD hS dX2_step_200 ((fun k9 => match k9 with | 0 => (u_140p57.1 0) | 1 => j21_F0_4 | 2 => (u_140p57.1 1) | 3 => (u_140p57.1 2) | 4 => (u_140p57.1 3) | 5 => (u_140p57.1 4) | _ => 0), (fun _ => 0), (fun _ => (fun _ => 0)), (fun _ => (fun _ => 0)), (fun _ => 0)) [1, 2, 0] rfl rfl (Nat.le_of_ble_eq_true rfl) (Nat.le_of_ble_eq_true rfl) ⟨(show iR (u_140p57.1 0) 0 1600 from g_140p57_0), (show iR j21_F0_4 0 1600 from (iR_w f_32_1 (by decide +kernel))), (show iR (u_140p57.1 1) 0 324 from (iR_w g_140p57_1 (by decide +kernel))), (show iR (u_140p57.1 3) 0 6 from g_140p57_2), (show XTS f0_0 g0_1 v0_3.toNatClampNeg v0_4 v0_6 v0_7 v0_9 v0_10 (u_140p57.1 0) j21_F0_4 (u_140p57.1 1) (u_140p57.1 2) (u_140p57.1 3) (u_140p57.1 4) from (Or.inr ⟨c_4, (rn_e (Or.inr (cB_n c_43 c_57))).symm.trans p21_0, (u_140p57.1 1), (u_140p57.1 3), (u_140p57.1 4), Or.inr (Or.inr (Or.inl ⟨(i_ltN c_89p57 f_32_1 f_32_2 (by decide +kernel)), (bI_f g_111p57_1 c_114p57), (bI_t g_133p57_1 c_136p57), g_140p57_3⟩)), Or.inr ⟨fun q9 => c_178p57p143 q9.2.1, rfl, rfl, rfl⟩⟩)), (show (0 : Int32) < v0_9 → (0 : Int32) < (u_140p57.1 3) from (fun h => g_140p57_4 ((fun h => h) h))), (show ((u_140p57.1 3) = 0) ∨ (((u_140p57.1 1) = 259)) from g_140p57_5)⟩
                      · have c_178p57p143 : j21_F0_4 = v0_4 := c_178p57p143
                        have f_181p57p143_7 : iR v0_4 0 1599 := iR_eqR c_178p57p143 f_32_1 hv0_4 (by decide +kernel)
                        refine lv_aload_n hx hb dX2_step_181 rfl (lv_at hl 0 rfl) ?_
                        refine k_get (D := (dC, dI)) (ci := 2) (v := .int (u_140p57.1 1)) (C := RX2) (T := TX2) (N := 11) hx hb hts hinX2 hown hK hP 1 rfl rfl 6 (by decide) w_2 rfl rfl dX2_step_182 ?_
                        refine k_ci (wc := []) (wr := [(a0_1, .inl (cJ, 25, .inr (.inl g0_1))), (a0, .inr (2, [.ref a0_0, .ref a0_1, .ref b0_2, .int v0_3, .int (u_140p57.1 0), .int j21_F0_4, .int (u_140p57.1 1), .int (u_140p57.1 2), .int 0, .int (u_140p57.1 3), .int (u_140p57.1 4)])), (a0_0, .inl (cI, 1600, .inl f0_0))]) (fun hPc hDc hFc => va_runS (As := [.int (u_140p57.1 1)]) (rest := []) ⟨hx, hb, hml, hown, hts⟩ (s_X2_isWhole_v0 l dC dI cI cJ cZ cM (u_140p57.1 1) H.size) (va_cwS 1 hts gX2_step_X2_isWhole rfl rfl rfl (by decide +kernel) ⟨(Nat.le_of_ble_eq_true rfl), (Nat.le_of_ble_eq_true rfl)⟩) (k_pS hPc hDc hK hN hC hS hFc) rfl rfl hl.1 rfl (lv_room (Nat.le_of_ble_eq_true rfl)) dX2_step_185 ⟨(Nat.le_of_ble_eq_true rfl), (Nat.le_of_ble_eq_true rfl)⟩) hP hD hS hA [] [0, 1, 2] rfl rfl rfl rfl (by decide) (fun _ => rfl) 0 0 rfl rfl (fun r_185p57p143 u_185p57p143 H locs hw hP hD hS => ?_)
                        obtain ⟨g_185p57p143_0, g_185p57p143_1⟩ := hw
                        have hP : va_P (dC, dI) vwCl [(a0_1, .inl (cJ, 25, .inr (.inl g0_1))), (a0, .inr (2, [.ref a0_0, .ref a0_1, .ref b0_2, .int v0_3, .int (u_140p57.1 0), .int j21_F0_4, .int (u_140p57.1 1), .int (u_140p57.1 2), .int 0, .int (u_140p57.1 3), .int (u_140p57.1 4)])), (a0_0, .inl (cI, 1600, .inl f0_0))] H := hP
                        have hD : va_D A [(a0_1, .inl (cJ, 25, .inr (.inl g0_1))), (a0, .inr (2, [.ref a0_0, .ref a0_1, .ref b0_2, .int v0_3, .int (u_140p57.1 0), .int j21_F0_4, .int (u_140p57.1 1), .int (u_140p57.1 2), .int 0, .int (u_140p57.1 3), .int (u_140p57.1 4)])), (a0_0, .inl (cI, 1600, .inl f0_0))] := hD
                        have g_185p57p143_1 : r_185p57p143 = bI (wh (u_140p57.1 1)) := g_185p57p143_1
                        refine lv_if_eq (tgt := 200) hx hb dX2_step_188 (by decide) (fun c_188p57p143 => ?_) (fun c_188p57p143 => ?_)
                        · have c_188p57p143 : r_185p57p143 = 0 := c_188p57p143
                          have f_200p57p143_8 : iR r_185p57p143 0 0 := iR_eqL c_188p57p143 g_185p57p143_0 (iR_c (n := 0) (a := 0) (b := 0) (by decide +kernel) (by decide +kernel)) (by decide +kernel)
                          exact k_rv B hP hD hS dX2_step_200 ((fun k9 => match k9 with | 0 => (u_140p57.1 0) | 1 => j21_F0_4 | 2 => (u_140p57.1 1) | 3 => (u_140p57.1 2) | 4 => (u_140p57.1 3) | 5 => (u_140p57.1 4) | _ => 0), (fun _ => 0), (fun _ => (fun _ => 0)), (fun _ => (fun _ => 0)), (fun _ => 0)) [1, 2, 0] rfl rfl (Nat.le_of_ble_eq_true rfl) (Nat.le_of_ble_eq_true rfl) ⟨(show iR (u_140p57.1 0) 0 1600 from g_140p57_0), (show iR j21_F0_4 0 1600 from (iR_w f_32_1 (by decide +kernel))), (show iR (u_140p57.1 1) 0 324 from (iR_w g_140p57_1 (by decide +kernel))), (show iR (u_140p57.1 3) 0 6 from g_140p57_2), (show XTS f0_0 g0_1 v0_3.toNatClampNeg v0_4 v0_6 v0_7 v0_9 v0_10 (u_140p57.1 0) j21_F0_4 (u_140p57.1 1) (u_140p57.1 2) (u_140p57.1 3) (u_140p57.1 4) from (Or.inr ⟨c_4, (rn_e (Or.inr (cB_n c_43 c_57))).symm.trans p21_0, (u_140p57.1 1), (u_140p57.1 3), (u_140p57.1 4), Or.inr (Or.inr (Or.inl ⟨(i_ltN c_89p57 f_32_1 f_32_2 (by decide +kernel)), (bI_f g_111p57_1 c_114p57), (bI_t g_133p57_1 c_136p57), g_140p57_3⟩)), Or.inr ⟨fun q9 => absurd (q9.2.2.symm.trans (bI_f g_185p57p143_1 c_188p57p143)) (by decide), rfl, rfl, rfl⟩⟩)), (show (0 : Int32) < v0_9 → (0 : Int32) < (u_140p57.1 3) from (fun h => g_140p57_4 ((fun h => h) h))), (show ((u_140p57.1 3) = 0) ∨ (((u_140p57.1 1) = 259)) from g_140p57_5)⟩
                        · have c_188p57p143 : ¬ r_185p57p143 = 0 := c_188p57p143
                          have f_191p57p143_8 : iR r_185p57p143 1 1 := iR_neL c_188p57p143 g_185p57p143_0 (iR_c (n := 0) (a := 0) (b := 0) (by decide +kernel) (by decide +kernel)) (by decide +kernel)
                          refine lv_aload_n hx hb dX2_step_191 rfl (lv_at hl 0 rfl) ?_
                          refine lv_iconst (v := 1) hx hb dX2_step_192 (by decide +kernel) ?_
                          refine lv_aload_n hx hb dX2_step_193 rfl (lv_at hl 0 rfl) ?_
                          refine k_get (D := (dC, dI)) (ci := 2) (v := .int j21_F0_4) (C := RX2) (T := TX2) (N := 11) hx hb hts hinX2 hown hK hP 1 rfl rfl 5 (by decide) w_4 rfl rfl dX2_step_194 ?_
                          refine k_cv (wc := [(a0, .inr (2, [.ref a0_0, .ref a0_1, .ref b0_2, .int v0_3, .int (u_140p57.1 0), .int j21_F0_4, .int (u_140p57.1 1), .int (u_140p57.1 2), .int 0, .int (u_140p57.1 3), .int (u_140p57.1 4)]))]) (wr := [(a0_1, .inl (cJ, 25, .inr (.inl g0_1))), (a0_0, .inl (cI, 1600, .inl f0_0))]) (fun hPc hDc hFc => va_runV (As := [.int 1, .int j21_F0_4]) (rest := []) ⟨hx, hb, hml, hown, hts⟩ (s_X2_blame_v2 l dC dI cI cJ cZ cM a0 1 j21_F0_4 a0_0 a0_1 b0_2 v0_3 (u_140p57.1 0) j21_F0_4 (u_140p57.1 1) (u_140p57.1 2) (u_140p57.1 3) (u_140p57.1 4) (iR_c (n := 1) (a := 1) (b := 6) (by decide +kernel) (by decide +kernel)) (iR_w f_32_2 (by decide +kernel)) g_140p57_0 (iR_w f_32_1 (by decide +kernel)) (iR_w g_140p57_1 (by decide +kernel)) g_140p57_2 g_140p57_5 H.size) (cwV 2 hts gX2_step_X2_blame rfl rfl rfl (by decide +kernel) ⟨(Nat.le_of_ble_eq_true rfl), (Nat.le_of_ble_eq_true rfl)⟩) (k_pV hPc hDc hK hN hC hS hFc hP (q0 := 1) (ci := 2) rfl rfl) rfl rfl hl.1 rfl (lv_room (Nat.le_of_ble_eq_true rfl)) dX2_step_197 ⟨(Nat.le_of_ble_eq_true rfl), (Nat.le_of_ble_eq_true rfl)⟩) hP hD hS hA [1] [0, 2] rfl rfl rfl rfl (by decide) (fun _ => rfl) 0 0 rfl rfl (fun u_197p57p143 H locs hw hP hD hS => ?_)
                          obtain ⟨g_197p57p143_0, g_197p57p143_1, g_197p57p143_2, g_197p57p143_3, g_197p57p143_4⟩ := hw
                          have hP : va_P (dC, dI) vwCl [(a0_1, .inl (cJ, 25, .inr (.inl g0_1))), (a0_0, .inl (cI, 1600, .inl f0_0)), (a0, .inr (2, [.ref a0_0, .ref a0_1, .ref b0_2, .int v0_3, .int (u_140p57.1 0), .int j21_F0_4, .int (u_197p57p143.1 0), .int (u_140p57.1 2), .int 0, .int (u_197p57p143.1 1), .int (u_197p57p143.1 2)]))] H := hP
                          have hD : va_D A [(a0_1, .inl (cJ, 25, .inr (.inl g0_1))), (a0_0, .inl (cI, 1600, .inl f0_0)), (a0, .inr (2, [.ref a0_0, .ref a0_1, .ref b0_2, .int v0_3, .int (u_140p57.1 0), .int j21_F0_4, .int (u_197p57p143.1 0), .int (u_140p57.1 2), .int 0, .int (u_197p57p143.1 1), .int (u_197p57p143.1 2)]))] := hD
                          have g_197p57p143_2 : BL (u_140p57.1 1) (u_140p57.1 3) (u_140p57.1 4) 1 j21_F0_4 (u_197p57p143.1 0) (u_197p57p143.1 1) (u_197p57p143.1 2) := g_197p57p143_2
                          have g_197p57p143_3 : (0 : Int32) < (u_140p57.1 3) → (0 : Int32) < (u_197p57p143.1 1) := g_197p57p143_3
                          have g_197p57p143_4 : ((u_197p57p143.1 1) = 0) ∨ (((u_197p57p143.1 0) = 259)) := g_197p57p143_4
                          obtain d197p57p143_1_0 := g_197p57p143_4.resolve_left (i_nef g_197p57p143_1 (iR_c (n := 0) (a := 0) (b := 0) (by decide +kernel) (by decide +kernel)) (by decide +kernel))
                          exact k_rv B hP hD hS dX2_step_200 ((fun k9 => match k9 with | 0 => (u_140p57.1 0) | 1 => j21_F0_4 | 2 => (u_197p57p143.1 0) | 3 => (u_140p57.1 2) | 4 => (u_197p57p143.1 1) | 5 => (u_197p57p143.1 2) | _ => 0), (fun _ => 0), (fun _ => (fun _ => 0)), (fun _ => (fun _ => 0)), (fun _ => 0)) [2, 1, 0] rfl rfl (Nat.le_of_ble_eq_true rfl) (Nat.le_of_ble_eq_true rfl) ⟨(show iR (u_140p57.1 0) 0 1600 from g_140p57_0), (show iR j21_F0_4 0 1600 from (iR_w f_32_1 (by decide +kernel))), (show iR (u_197p57p143.1 0) 0 324 from (iR_w g_197p57p143_0 (by decide +kernel))), (show iR (u_197p57p143.1 1) 0 6 from (iR_w g_197p57p143_1 (by decide +kernel))), (show XTS f0_0 g0_1 v0_3.toNatClampNeg v0_4 v0_6 v0_7 v0_9 v0_10 (u_140p57.1 0) j21_F0_4 (u_197p57p143.1 0) (u_140p57.1 2) (u_197p57p143.1 1) (u_197p57p143.1 2) from (Or.inr ⟨c_4, (rn_e (Or.inr (cB_n c_43 c_57))).symm.trans p21_0, (u_140p57.1 1), (u_140p57.1 3), (u_140p57.1 4), Or.inr (Or.inr (Or.inl ⟨(i_ltN c_89p57 f_32_1 f_32_2 (by decide +kernel)), (bI_f g_111p57_1 c_114p57), (bI_t g_133p57_1 c_136p57), g_140p57_3⟩)), Or.inl ⟨(bI_t g_17_1 c_170p57p143), c_178p57p143, (bI_t g_185p57p143_1 c_188p57p143), g_197p57p143_2⟩⟩)), (show (0 : Int32) < v0_9 → (0 : Int32) < (u_197p57p143.1 1) from (fun h => g_197p57p143_3 ((fun h => g_140p57_4 ((fun h => h) h)) h))), (show ((u_197p57p143.1 1) = 0) ∨ (((u_197p57p143.1 0) = 259)) from (Or.inr d197p57p143_1_0))⟩
                · have c_114p57 : ¬ r_111p57 = 0 := c_114p57
                  have f_117p57_4 : iR r_111p57 1 1 := iR_neL c_114p57 g_111p57_0 (iR_c (n := 0) (a := 0) (b := 0) (by decide +kernel) (by decide +kernel)) (by decide +kernel)
                  refine lv_aload_n hx hb dX2_step_117 rfl (lv_at hl 0 rfl) ?_
                  refine k_cv (wc := [(a0, .inr (2, [.ref a0_0, .ref a0_1, .ref b0_2, .int v0_3, .int j21_F0_4, .int j21_F0_4, .int v0_6, .int v0_7, .int 0, .int v0_9, .int v0_10])), (a0_0, .inl (cI, 1600, .inl f0_0)), (a0_1, .inl (cJ, 25, .inr (.inl g0_1)))]) (wr := []) (fun hPc hDc hFc => va_runV (As := []) (rest := []) ⟨hx, hb, hml, hown, hts⟩ (s_X2_readWord_v1 l dC dI cI cJ cZ cM a0 a0_0 f0_0 a0_1 g0_1 b0_2 v0_3 j21_F0_4 j21_F0_4 v0_6 v0_7 v0_9 v0_10 (show iR v0_9 0 0 from f_8_1) (iR_w f_32_2 (by decide +kernel)) (iR_w f_32_1 (by decide +kernel)) (iR_w f_32_1 (by decide +kernel)) hv0_6 (iR_w f_8_1 (by decide +kernel)) hf0_0 hpg0 rfl H.size) (cwV 0 hts gX2_step_X2_readWord rfl rfl rfl (by decide +kernel) ⟨(Nat.le_of_ble_eq_true rfl), (Nat.le_of_ble_eq_true rfl)⟩) (k_pV hPc hDc hK hN hC hS hFc hP (q0 := 0) (ci := 2) rfl rfl) rfl rfl hl.1 rfl (lv_room (Nat.le_of_ble_eq_true rfl)) dX2_step_118 ⟨(Nat.le_of_ble_eq_true rfl), (Nat.le_of_ble_eq_true rfl)⟩) hP hD hS hA [0, 1, 2] [] rfl rfl rfl rfl (by decide) (fun _ => rfl) 0 0 rfl rfl (fun u_118p57 H locs hw hP hD hS => ?_)
                  obtain ⟨g_118p57_0, g_118p57_1, g_118p57_2, g_118p57_3, g_118p57_4, g_118p57_5⟩ := hw
                  have hP : va_P (dC, dI) vwCl [(a0, .inr (2, [.ref a0_0, .ref a0_1, .ref b0_2, .int v0_3, .int (u_118p57.1 0), .int j21_F0_4, .int (u_118p57.1 1), .int (u_118p57.1 2), .int 0, .int (u_118p57.1 3), .int (u_118p57.1 4)])), (a0_0, .inl (cI, 1600, .inl f0_0)), (a0_1, .inl (cJ, 25, .inr (.inl g0_1)))] H := hP
                  have hD : va_D A [(a0, .inr (2, [.ref a0_0, .ref a0_1, .ref b0_2, .int v0_3, .int (u_118p57.1 0), .int j21_F0_4, .int (u_118p57.1 1), .int (u_118p57.1 2), .int 0, .int (u_118p57.1 3), .int (u_118p57.1 4)])), (a0_0, .inl (cI, 1600, .inl f0_0)), (a0_1, .inl (cJ, 25, .inr (.inl g0_1)))] := hD
                  have g_118p57_3 : XW f0_0 g0_1 v0_3.toNatClampNeg j21_F0_4 v0_7 v0_10 (u_118p57.1 0) (u_118p57.1 1) (u_118p57.1 2) (u_118p57.1 3) (u_118p57.1 4) := g_118p57_3
                  have g_118p57_4 : (0 : Int32) < v0_9 → (0 : Int32) < (u_118p57.1 3) := g_118p57_4
                  have g_118p57_5 : ((u_118p57.1 3) = 0) ∨ (((u_118p57.1 1) = 259)) := g_118p57_5
                  refine lv_goto (tgt := 169) hx hb dX2_step_121 (by decide) ?_
                  refine lv_iload_n hx hb dX2_step_169 rfl (lv_at hl 2 rfl) ?_
                  refine lv_if_eq (tgt := 200) hx hb dX2_step_170 (by decide) (fun c_170p57p121 => ?_) (fun c_170p57p121 => ?_)
                  · have c_170p57p121 : r_17 = 0 := c_170p57p121
                    have f_200p57p121_5 : iR r_17 0 0 := iR_eqL c_170p57p121 g_17_0 (iR_c (n := 0) (a := 0) (b := 0) (by decide +kernel) (by decide +kernel)) (by decide +kernel)
                    exact k_rv B hP hD hS dX2_step_200 ((fun k9 => match k9 with | 0 => (u_118p57.1 0) | 1 => j21_F0_4 | 2 => (u_118p57.1 1) | 3 => (u_118p57.1 2) | 4 => (u_118p57.1 3) | 5 => (u_118p57.1 4) | _ => 0), (fun _ => 0), (fun _ => (fun _ => 0)), (fun _ => (fun _ => 0)), (fun _ => 0)) [0, 1, 2] rfl rfl (Nat.le_of_ble_eq_true rfl) (Nat.le_of_ble_eq_true rfl) ⟨(show iR (u_118p57.1 0) 0 1600 from g_118p57_0), (show iR j21_F0_4 0 1600 from (iR_w f_32_1 (by decide +kernel))), (show iR (u_118p57.1 1) 0 324 from (iR_w g_118p57_1 (by decide +kernel))), (show iR (u_118p57.1 3) 0 6 from g_118p57_2), (show XTS f0_0 g0_1 v0_3.toNatClampNeg v0_4 v0_6 v0_7 v0_9 v0_10 (u_118p57.1 0) j21_F0_4 (u_118p57.1 1) (u_118p57.1 2) (u_118p57.1 3) (u_118p57.1 4) from (Or.inr ⟨c_4, (rn_e (Or.inr (cB_n c_43 c_57))).symm.trans p21_0, (u_118p57.1 1), (u_118p57.1 3), (u_118p57.1 4), Or.inr (Or.inl ⟨(i_ltN c_89p57 f_32_1 f_32_2 (by decide +kernel)), (bI_t g_111p57_1 c_114p57), g_118p57_3⟩), Or.inr ⟨fun q9 => absurd (q9.1.symm.trans (bI_f g_17_1 c_170p57p121)) (by decide), rfl, rfl, rfl⟩⟩)), (show (0 : Int32) < v0_9 → (0 : Int32) < (u_118p57.1 3) from (fun h => g_118p57_4 ((fun h => h) h))), (show ((u_118p57.1 3) = 0) ∨ (((u_118p57.1 1) = 259)) from g_118p57_5)⟩
                  · have c_170p57p121 : ¬ r_17 = 0 := c_170p57p121
                    have f_173p57p121_5 : iR r_17 1 1 := iR_neL c_170p57p121 g_17_0 (iR_c (n := 0) (a := 0) (b := 0) (by decide +kernel) (by decide +kernel)) (by decide +kernel)
                    refine lv_aload_n hx hb dX2_step_173 rfl (lv_at hl 0 rfl) ?_
                    refine k_get (D := (dC, dI)) (ci := 2) (v := .int j21_F0_4) (C := RX2) (T := TX2) (N := 11) hx hb hts hinX2 hown hK hP 0 rfl rfl 5 (by decide) w_4 rfl rfl dX2_step_174 ?_
                    refine lv_iload_n hx hb dX2_step_177 rfl (lv_at hl 1 rfl) ?_
                    refine lv_icmp_ne (tgt := 200) hx hb dX2_step_178 (by decide) (fun c_178p57p121 => ?_) (fun c_178p57p121 => ?_)
                    · have c_178p57p121 : ¬ j21_F0_4 = v0_4 := c_178p57p121
                      exact k_rv B hP hD hS dX2_step_200 ((fun k9 => match k9 with | 0 => (u_118p57.1 0) | 1 => j21_F0_4 | 2 => (u_118p57.1 1) | 3 => (u_118p57.1 2) | 4 => (u_118p57.1 3) | 5 => (u_118p57.1 4) | _ => 0), (fun _ => 0), (fun _ => (fun _ => 0)), (fun _ => (fun _ => 0)), (fun _ => 0)) [0, 1, 2] rfl rfl (Nat.le_of_ble_eq_true rfl) (Nat.le_of_ble_eq_true rfl) ⟨(show iR (u_118p57.1 0) 0 1600 from g_118p57_0), (show iR j21_F0_4 0 1600 from (iR_w f_32_1 (by decide +kernel))), (show iR (u_118p57.1 1) 0 324 from (iR_w g_118p57_1 (by decide +kernel))), (show iR (u_118p57.1 3) 0 6 from g_118p57_2), (show XTS f0_0 g0_1 v0_3.toNatClampNeg v0_4 v0_6 v0_7 v0_9 v0_10 (u_118p57.1 0) j21_F0_4 (u_118p57.1 1) (u_118p57.1 2) (u_118p57.1 3) (u_118p57.1 4) from (Or.inr ⟨c_4, (rn_e (Or.inr (cB_n c_43 c_57))).symm.trans p21_0, (u_118p57.1 1), (u_118p57.1 3), (u_118p57.1 4), Or.inr (Or.inl ⟨(i_ltN c_89p57 f_32_1 f_32_2 (by decide +kernel)), (bI_t g_111p57_1 c_114p57), g_118p57_3⟩), Or.inr ⟨fun q9 => c_178p57p121 q9.2.1, rfl, rfl, rfl⟩⟩)), (show (0 : Int32) < v0_9 → (0 : Int32) < (u_118p57.1 3) from (fun h => g_118p57_4 ((fun h => h) h))), (show ((u_118p57.1 3) = 0) ∨ (((u_118p57.1 1) = 259)) from g_118p57_5)⟩
                    · have c_178p57p121 : j21_F0_4 = v0_4 := c_178p57p121
                      have f_181p57p121_6 : iR v0_4 0 1599 := iR_eqR c_178p57p121 f_32_1 hv0_4 (by decide +kernel)
                      refine lv_aload_n hx hb dX2_step_181 rfl (lv_at hl 0 rfl) ?_
                      refine k_get (D := (dC, dI)) (ci := 2) (v := .int (u_118p57.1 1)) (C := RX2) (T := TX2) (N := 11) hx hb hts hinX2 hown hK hP 0 rfl rfl 6 (by decide) w_2 rfl rfl dX2_step_182 ?_
                      refine k_ci (wc := []) (wr := [(a0, .inr (2, [.ref a0_0, .ref a0_1, .ref b0_2, .int v0_3, .int (u_118p57.1 0), .int j21_F0_4, .int (u_118p57.1 1), .int (u_118p57.1 2), .int 0, .int (u_118p57.1 3), .int (u_118p57.1 4)])), (a0_0, .inl (cI, 1600, .inl f0_0)), (a0_1, .inl (cJ, 25, .inr (.inl g0_1)))]) (fun hPc hDc hFc => va_runS (As := [.int (u_118p57.1 1)]) (rest := []) ⟨hx, hb, hml, hown, hts⟩ (s_X2_isWhole_v0 l dC dI cI cJ cZ cM (u_118p57.1 1) H.size) (va_cwS 1 hts gX2_step_X2_isWhole rfl rfl rfl (by decide +kernel) ⟨(Nat.le_of_ble_eq_true rfl), (Nat.le_of_ble_eq_true rfl)⟩) (k_pS hPc hDc hK hN hC hS hFc) rfl rfl hl.1 rfl (lv_room (Nat.le_of_ble_eq_true rfl)) dX2_step_185 ⟨(Nat.le_of_ble_eq_true rfl), (Nat.le_of_ble_eq_true rfl)⟩) hP hD hS hA [] [0, 1, 2] rfl rfl rfl rfl (by decide) (fun _ => rfl) 0 0 rfl rfl (fun r_185p57p121 u_185p57p121 H locs hw hP hD hS => ?_)
                      obtain ⟨g_185p57p121_0, g_185p57p121_1⟩ := hw
                      have hP : va_P (dC, dI) vwCl [(a0, .inr (2, [.ref a0_0, .ref a0_1, .ref b0_2, .int v0_3, .int (u_118p57.1 0), .int j21_F0_4, .int (u_118p57.1 1), .int (u_118p57.1 2), .int 0, .int (u_118p57.1 3), .int (u_118p57.1 4)])), (a0_0, .inl (cI, 1600, .inl f0_0)), (a0_1, .inl (cJ, 25, .inr (.inl g0_1)))] H := hP
                      have hD : va_D A [(a0, .inr (2, [.ref a0_0, .ref a0_1, .ref b0_2, .int v0_3, .int (u_118p57.1 0), .int j21_F0_4, .int (u_118p57.1 1), .int (u_118p57.1 2), .int 0, .int (u_118p57.1 3), .int (u_118p57.1 4)])), (a0_0, .inl (cI, 1600, .inl f0_0)), (a0_1, .inl (cJ, 25, .inr (.inl g0_1)))] := hD
                      have g_185p57p121_1 : r_185p57p121 = bI (wh (u_118p57.1 1)) := g_185p57p121_1
                      refine lv_if_eq (tgt := 200) hx hb dX2_step_188 (by decide) (fun c_188p57p121 => ?_) (fun c_188p57p121 => ?_)
                      · have c_188p57p121 : r_185p57p121 = 0 := c_188p57p121
                        have f_200p57p121_7 : iR r_185p57p121 0 0 := iR_eqL c_188p57p121 g_185p57p121_0 (iR_c (n := 0) (a := 0) (b := 0) (by decide +kernel) (by decide +kernel)) (by decide +kernel)
                        exact k_rv B hP hD hS dX2_step_200 ((fun k9 => match k9 with | 0 => (u_118p57.1 0) | 1 => j21_F0_4 | 2 => (u_118p57.1 1) | 3 => (u_118p57.1 2) | 4 => (u_118p57.1 3) | 5 => (u_118p57.1 4) | _ => 0), (fun _ => 0), (fun _ => (fun _ => 0)), (fun _ => (fun _ => 0)), (fun _ => 0)) [0, 1, 2] rfl rfl (Nat.le_of_ble_eq_true rfl) (Nat.le_of_ble_eq_true rfl) ⟨(show iR (u_118p57.1 0) 0 1600 from g_118p57_0), (show iR j21_F0_4 0 1600 from (iR_w f_32_1 (by decide +kernel))), (show iR (u_118p57.1 1) 0 324 from (iR_w g_118p57_1 (by decide +kernel))), (show iR (u_118p57.1 3) 0 6 from g_118p57_2), (show XTS f0_0 g0_1 v0_3.toNatClampNeg v0_4 v0_6 v0_7 v0_9 v0_10 (u_118p57.1 0) j21_F0_4 (u_118p57.1 1) (u_118p57.1 2) (u_118p57.1 3) (u_118p57.1 4) from (Or.inr ⟨c_4, (rn_e (Or.inr (cB_n c_43 c_57))).symm.trans p21_0, (u_118p57.1 1), (u_118p57.1 3), (u_118p57.1 4), Or.inr (Or.inl ⟨(i_ltN c_89p57 f_32_1 f_32_2 (by decide +kernel)), (bI_t g_111p57_1 c_114p57), g_118p57_3⟩), Or.inr ⟨fun q9 => absurd (q9.2.2.symm.trans (bI_f g_185p57p121_1 c_188p57p121)) (by decide), rfl, rfl, rfl⟩⟩)), (show (0 : Int32) < v0_9 → (0 : Int32) < (u_118p57.1 3) from (fun h => g_118p57_4 ((fun h => h) h))), (show ((u_118p57.1 3) = 0) ∨ (((u_118p57.1 1) = 259)) from g_118p57_5)⟩
                      · have c_188p57p121 : ¬ r_185p57p121 = 0 := c_188p57p121
                        have f_191p57p121_7 : iR r_185p57p121 1 1 := iR_neL c_188p57p121 g_185p57p121_0 (iR_c (n := 0) (a := 0) (b := 0) (by decide +kernel) (by decide +kernel)) (by decide +kernel)
                        refine lv_aload_n hx hb dX2_step_191 rfl (lv_at hl 0 rfl) ?_
                        refine lv_iconst (v := 1) hx hb dX2_step_192 (by decide +kernel) ?_
                        refine lv_aload_n hx hb dX2_step_193 rfl (lv_at hl 0 rfl) ?_
                        refine k_get (D := (dC, dI)) (ci := 2) (v := .int j21_F0_4) (C := RX2) (T := TX2) (N := 11) hx hb hts hinX2 hown hK hP 0 rfl rfl 5 (by decide) w_4 rfl rfl dX2_step_194 ?_
                        refine k_cv (wc := [(a0, .inr (2, [.ref a0_0, .ref a0_1, .ref b0_2, .int v0_3, .int (u_118p57.1 0), .int j21_F0_4, .int (u_118p57.1 1), .int (u_118p57.1 2), .int 0, .int (u_118p57.1 3), .int (u_118p57.1 4)]))]) (wr := [(a0_0, .inl (cI, 1600, .inl f0_0)), (a0_1, .inl (cJ, 25, .inr (.inl g0_1)))]) (fun hPc hDc hFc => va_runV (As := [.int 1, .int j21_F0_4]) (rest := []) ⟨hx, hb, hml, hown, hts⟩ (s_X2_blame_v2 l dC dI cI cJ cZ cM a0 1 j21_F0_4 a0_0 a0_1 b0_2 v0_3 (u_118p57.1 0) j21_F0_4 (u_118p57.1 1) (u_118p57.1 2) (u_118p57.1 3) (u_118p57.1 4) (iR_c (n := 1) (a := 1) (b := 6) (by decide +kernel) (by decide +kernel)) (iR_w f_32_2 (by decide +kernel)) g_118p57_0 (iR_w f_32_1 (by decide +kernel)) (iR_w g_118p57_1 (by decide +kernel)) g_118p57_2 g_118p57_5 H.size) (cwV 2 hts gX2_step_X2_blame rfl rfl rfl (by decide +kernel) ⟨(Nat.le_of_ble_eq_true rfl), (Nat.le_of_ble_eq_true rfl)⟩) (k_pV hPc hDc hK hN hC hS hFc hP (q0 := 0) (ci := 2) rfl rfl) rfl rfl hl.1 rfl (lv_room (Nat.le_of_ble_eq_true rfl)) dX2_step_197 ⟨(Nat.le_of_ble_eq_true rfl), (Nat.le_of_ble_eq_true rfl)⟩) hP hD hS hA [0] [1, 2] rfl rfl rfl rfl (by decide) (fun _ => rfl) 0 0 rfl rfl (fun u_197p57p121 H locs hw hP hD hS => ?_)
                        obtain ⟨g_197p57p121_0, g_197p57p121_1, g_197p57p121_2, g_197p57p121_3, g_197p57p121_4⟩ := hw
                        have hP : va_P (dC, dI) vwCl [(a0_0, .inl (cI, 1600, .inl f0_0)), (a0_1, .inl (cJ, 25, .inr (.inl g0_1))), (a0, .inr (2, [.ref a0_0, .ref a0_1, .ref b0_2, .int v0_3, .int (u_118p57.1 0), .int j21_F0_4, .int (u_197p57p121.1 0), .int (u_118p57.1 2), .int 0, .int (u_197p57p121.1 1), .int (u_197p57p121.1 2)]))] H := hP
                        have hD : va_D A [(a0_0, .inl (cI, 1600, .inl f0_0)), (a0_1, .inl (cJ, 25, .inr (.inl g0_1))), (a0, .inr (2, [.ref a0_0, .ref a0_1, .ref b0_2, .int v0_3, .int (u_118p57.1 0), .int j21_F0_4, .int (u_197p57p121.1 0), .int (u_118p57.1 2), .int 0, .int (u_197p57p121.1 1), .int (u_197p57p121.1 2)]))] := hD
                        have g_197p57p121_2 : BL (u_118p57.1 1) (u_118p57.1 3) (u_118p57.1 4) 1 j21_F0_4 (u_197p57p121.1 0) (u_197p57p121.1 1) (u_197p57p121.1 2) := g_197p57p121_2
                        have g_197p57p121_3 : (0 : Int32) < (u_118p57.1 3) → (0 : Int32) < (u_197p57p121.1 1) := g_197p57p121_3
                        have g_197p57p121_4 : ((u_197p57p121.1 1) = 0) ∨ (((u_197p57p121.1 0) = 259)) := g_197p57p121_4
                        obtain d197p57p121_1_0 := g_197p57p121_4.resolve_left (i_nef g_197p57p121_1 (iR_c (n := 0) (a := 0) (b := 0) (by decide +kernel) (by decide +kernel)) (by decide +kernel))
                        exact k_rv B hP hD hS dX2_step_200 ((fun k9 => match k9 with | 0 => (u_118p57.1 0) | 1 => j21_F0_4 | 2 => (u_197p57p121.1 0) | 3 => (u_118p57.1 2) | 4 => (u_197p57p121.1 1) | 5 => (u_197p57p121.1 2) | _ => 0), (fun _ => 0), (fun _ => (fun _ => 0)), (fun _ => (fun _ => 0)), (fun _ => 0)) [2, 0, 1] rfl rfl (Nat.le_of_ble_eq_true rfl) (Nat.le_of_ble_eq_true rfl) ⟨(show iR (u_118p57.1 0) 0 1600 from g_118p57_0), (show iR j21_F0_4 0 1600 from (iR_w f_32_1 (by decide +kernel))), (show iR (u_197p57p121.1 0) 0 324 from (iR_w g_197p57p121_0 (by decide +kernel))), (show iR (u_197p57p121.1 1) 0 6 from (iR_w g_197p57p121_1 (by decide +kernel))), (show XTS f0_0 g0_1 v0_3.toNatClampNeg v0_4 v0_6 v0_7 v0_9 v0_10 (u_118p57.1 0) j21_F0_4 (u_197p57p121.1 0) (u_118p57.1 2) (u_197p57p121.1 1) (u_197p57p121.1 2) from (Or.inr ⟨c_4, (rn_e (Or.inr (cB_n c_43 c_57))).symm.trans p21_0, (u_118p57.1 1), (u_118p57.1 3), (u_118p57.1 4), Or.inr (Or.inl ⟨(i_ltN c_89p57 f_32_1 f_32_2 (by decide +kernel)), (bI_t g_111p57_1 c_114p57), g_118p57_3⟩), Or.inl ⟨(bI_t g_17_1 c_170p57p121), c_178p57p121, (bI_t g_185p57p121_1 c_188p57p121), g_197p57p121_2⟩⟩)), (show (0 : Int32) < v0_9 → (0 : Int32) < (u_197p57p121.1 1) from (fun h => g_197p57p121_3 ((fun h => g_118p57_4 ((fun h => h) h)) h))), (show ((u_197p57p121.1 1) = 0) ∨ (((u_197p57p121.1 0) = 259)) from (Or.inr d197p57p121_1_0))⟩
              · exact (i_noall (by have r0 : j21_F0_4.toInt < v0_3.toInt := i_ti_lt rfl rfl c_29; have r1 : v0_3.toInt ≤ j21_F0_4.toInt := i_ti_le rfl rfl (i_nlt c_89p57); omega)).elim
            · have c_57 : (f0_0 j21_F0_4.toNatClampNeg) = 10 := c_57
              have f_60_4 : iR (f0_0 j21_F0_4.toNatClampNeg) 10 10 := iR_eqL c_57 f_40_3 (iR_c (n := 10) (a := 10) (b := 10) (by decide +kernel) (by decide +kernel)) (by decide +kernel)
              refine lv_aload_n hx hb dX2_step_60 rfl (lv_at hl 0 rfl) ?_
              refine lv_dup hx hb dX2_step_61 rfl ?_
              refine k_get (D := (dC, dI)) (ci := 2) (v := .int j21_F0_4) (C := RX2) (T := TX2) (N := 11) hx hb hts hinX2 hown hK hP 0 rfl rfl 4 (by decide) w_1 rfl rfl dX2_step_62 ?_
              refine lv_iconst (v := 1) hx hb dX2_step_65 (by decide +kernel) ?_
              refine lv_iadd hx hb dX2_step_66 ?_
              refine lv_topi (fun y_66p57 ey_66p57 => ?_)
              have f_66p57_5 : iR y_66p57 1 1600 := iR_add ey_66p57 f_32_1 (iR_c (n := 1) (a := 1) (b := 1) (by decide +kernel) (by decide +kernel)) (by decide +kernel)
              refine k_put (D := (dC, dI)) (ci := 2) (v := .int y_66p57) (C := RX2) (T := TX2) (N := 11) (ws' := [(a0, .inr (2, [.ref a0_0, .ref a0_1, .ref b0_2, .int v0_3, .int y_66p57, .int v0_5, .int v0_6, .int v0_7, .int 0, .int v0_9, .int v0_10])), (a0_0, .inl (cI, 1600, .inl f0_0)), (a0_1, .inl (cJ, 25, .inr (.inl g0_1)))]) hx hb hts hinX2 tyX2 tyX2_ok nmX2 hown hK hP hD hS 0 rfl rfl 4 (by decide) w_1 rfl rfl rfl rfl (Nat.le_of_ble_eq_true rfl) rfl dX2_step_67 (fun H locs hP hD hS => ?_)
              refine lv_goto (tgt := 21) hx hb dX2_step_70 (by decide) ?_
              exact ih_21 y_66p57 (iR_w f_66p57_5 (by decide +kernel)) (show rn cB f0_0 v0_3.toNatClampNeg y_66p57.toNatClampNeg = rn cB f0_0 v0_3.toNatClampNeg v0_4.toNatClampNeg from (by rw [i_succ ey_66p57 f_32_1 (by decide +kernel), rn_s (i_ltN c_29 f_32_1 f_32_2 (by decide +kernel)) (cB_y (Or.inr c_57))]; exact p21_0)) (m_up (B := 1600) hm_21 ey_66p57 f_32_1 (by decide +kernel)) H locs ls hP hD hS (lv_sub hl [0, 1, 2] rfl)
    refine lv_istore_n (lv' := [(2, .int r_17), (1, .int v0_4), (0, .ref a0)]) hx hb dX2_step_20 rfl hl (by decide) rfl (fun ls hl => ?_)
    exact J_21 _ v0_4 hv0_4 (show rn cB f0_0 v0_3.toNatClampNeg v0_4.toNatClampNeg = rn cB f0_0 v0_3.toNatClampNeg v0_4.toNatClampNeg from rfl) (Nat.lt_succ_self _) H locs ls hP hD hS (lv_sub hl [2, 1, 0] rfl)
  · have c_4 : ¬ v0_9 = 0 := c_4
    have f_7_1 : iR v0_9 1 6 := iR_neL c_4 hv0_9 (iR_c (n := 0) (a := 0) (b := 0) (by decide +kernel) (by decide +kernel)) (by decide +kernel)
    obtain d_4_1_0 := hpg0.resolve_left c_4
    have f_7_2 : iR v0_6 259 259 := iR_eqL d_4_1_0 hv0_6 (iR_c (n := 259) (a := 259) (b := 259) (by decide +kernel) (by decide +kernel)) (by decide +kernel)
    exact k_rv B hP hD hS dX2_step_7 ((fun k9 => match k9 with | 0 => v0_4 | 1 => v0_5 | 2 => v0_6 | 3 => v0_7 | 4 => v0_9 | 5 => v0_10 | _ => 0), (fun _ => 0), (fun _ => (fun _ => 0)), (fun _ => (fun _ => 0)), (fun _ => 0)) [0, 1, 2] rfl rfl (Nat.le_of_ble_eq_true rfl) (Nat.le_of_ble_eq_true rfl) ⟨(show iR v0_4 0 1600 from hv0_4), (show iR v0_5 0 1600 from hv0_5), (show iR v0_6 0 324 from (iR_w f_7_2 (by decide +kernel))), (show iR v0_9 0 6 from (iR_w f_7_1 (by decide +kernel))), (show XTS f0_0 g0_1 v0_3.toNatClampNeg v0_4 v0_6 v0_7 v0_9 v0_10 v0_4 v0_5 v0_6 v0_7 v0_9 v0_10 from (Or.inl ⟨c_4, rfl, rfl, rfl⟩)), (show (0 : Int32) < v0_9 → (0 : Int32) < v0_9 from (fun h => h)), (show (v0_9 = 0) ∨ ((v0_6 = 259)) from (Or.inr d_4_1_0))⟩
