set_option maxHeartbeats 8000000 in
set_option maxRecDepth 100000 in
theorem s_X7_keeps_v0 (l : Launch) (dC : Nat → ClassId) (dI : Nat → Nat → Nat) (cI cJ cZ cM : ClassId) (h : Nat) (r : Nat → Nat) (i : Nat → Int32) (j : Nat → Int64) (f49 : Nat → Int32) (f50 : Nat → Int32) (f51 : Nat → Int32) (f52 : Nat → Int32) (f53 : Nat → Int32) (f54 : Nat → Int32) (f55 : Nat → Int32) (f56 : Nat → Int32) (f57 : Nat → Int32) (hI : mR i) (hf49 : aR f49 0 1023) (hf50 : aR f50 0 999) (hf53 : aR f53 0 50) : k_Mv l yX7_keeps wsX7_keeps ({ frames := 2, cells := 0, slots := 0, locals := 63 }) (dC, dI) vwCl (tyy cI cJ cZ cM) [(h, .inr (7, oM r i j)), ((r 49), .inl (cI, 22, .inl f49)), ((r 50), .inl (cI, 22, .inl f50)), ((r 51), .inl (cI, 22, .inl f51)), ((r 52), .inl (cI, 22, .inl f52)), ((r 53), .inl (cI, 22, .inl f53)), ((r 54), .inl (cI, 1100, .inl f54)), ((r 55), .inl (cI, 1100, .inl f55)), ((r 56), .inl (cI, 1100, .inl f56)), ((r 57), .inl (cI, 1100, .inl f57))] [.ref h] 0 0 (fun (u9 : SU) => [(h, .inr (7, oM r (upd (upd i 58 (u9.1 0)) 59 (u9.1 1)) j)), ((r 49), .inl (cI, 22, .inl (u9.2.2.1 0))), ((r 50), .inl (cI, 22, .inl (u9.2.2.1 1))), ((r 51), .inl (cI, 22, .inl (u9.2.2.1 2))), ((r 52), .inl (cI, 22, .inl (u9.2.2.1 3))), ((r 53), .inl (cI, 22, .inl (u9.2.2.1 4))), ((r 54), .inl (cI, 1100, .inl (u9.2.2.1 5))), ((r 55), .inl (cI, 1100, .inl (u9.2.2.1 6))), ((r 56), .inl (cI, 1100, .inl (u9.2.2.1 7))), ((r 57), .inl (cI, 1100, .inl (u9.2.2.1 8)))]) (fun (u9 : SU) => (iR (u9.1 0) 0 19) ∧ (iR (u9.1 1) 1 20) ∧ (aR (u9.2.2.1 0) 0 1023) ∧ (aR (u9.2.2.1 1) 0 999) ∧ (aR (u9.2.2.1 4) 0 50)) := by
  refine fun sz => k_enter (cc := cX7_keeps) (maxL := 1) (ret := none) (Qc := fun A => va_Qv (fun (u9 : SU) => (iR (u9.1 0) 0 19) ∧ (iR (u9.1 1) 1 20) ∧ (aR (u9.2.2.1 0) 0 1023) ∧ (aR (u9.2.2.1 1) 0 999) ∧ (aR (u9.2.2.1 4) 0 50)) (fun u => k_B (dC, dI) vwCl (tyy cI cJ cZ cM) A ((fun (u9 : SU) => [(h, .inr (7, oM r (upd (upd i 58 (u9.1 0)) 59 (u9.1 1)) j)), ((r 49), .inl (cI, 22, .inl (u9.2.2.1 0))), ((r 50), .inl (cI, 22, .inl (u9.2.2.1 1))), ((r 51), .inl (cI, 22, .inl (u9.2.2.1 2))), ((r 52), .inl (cI, 22, .inl (u9.2.2.1 3))), ((r 53), .inl (cI, 22, .inl (u9.2.2.1 4))), ((r 54), .inl (cI, 1100, .inl (u9.2.2.1 5))), ((r 55), .inl (cI, 1100, .inl (u9.2.2.1 6))), ((r 56), .inl (cI, 1100, .inl (u9.2.2.1 7))), ((r 57), .inl (cI, 1100, .inl (u9.2.2.1 8)))]) u)) A) sz (by decide +kernel) rfl (Nat.le_of_ble_eq_true rfl) (fun p e s m args below meth c A ls H locs B hP hD hS hl => ?_)
  obtain ⟨hx, hb, hml, hown, hts, hr, hlk, hnm, hK, hA, hN, hC⟩ := id B
  have hown : s.vm.findClass RX7 = some m.cls := hown
  have hl : lv_has ls 1 [(0, .ref h)] := hl
  have w_0 : (Cond.fieldLink RX7 192 "WishSeaModel" "undos" "I").before args s = true := hts _ (List.mem_of_getElem? (i := 1) rfl)
  have w_1 : (Cond.fieldLink RX7 189 "WishSeaModel" "undoFirst" "I").before args s = true := hts _ (List.mem_of_getElem? (i := 2) rfl)
  have hinX7 : ∀ w ∈ u_ws RX7 TX7 92, w ∈ wsX7_keeps := fun _ h => List.mem_cons_of_mem _ (List.mem_append_right _ h)
  refine lv_aload_n hx hb dX7_keeps_0 rfl (lv_at hl 0 rfl) ?_
  have f_1_1 : iR (i 59) 0 20 := hI 59
  refine k_get (D := (dC, dI)) (ci := 7) (v := .int (i 59)) (C := RX7) (T := TX7) (N := 92) hx hb hts hinX7 hown hK hP 0 rfl rfl 59 (by decide) w_0 rfl rfl dX7_keeps_1 ?_
  refine lv_bipush (v := 20) hx hb dX7_keeps_4 (by decide +kernel) ?_
  refine lv_icmp_ne (tgt := 32) hx hb dX7_keeps_6 (by decide) (fun c_6 => ?_) (fun c_6 => ?_)
  · have c_6 : ¬ (i 59) = 20 := c_6
    have f_32_2 : iR (i 59) 0 19 := iR_neL c_6 f_1_1 (iR_c (n := 20) (a := 20) (b := 20) (by decide +kernel) (by decide +kernel)) (by decide +kernel)
    refine lv_aload_n hx hb dX7_keeps_32 rfl (lv_at hl 0 rfl) ?_
    refine lv_aload_n hx hb dX7_keeps_33 rfl (lv_at hl 0 rfl) ?_
    refine lv_aload_n hx hb dX7_keeps_34 rfl (lv_at hl 0 rfl) ?_
    refine k_get (D := (dC, dI)) (ci := 7) (v := .int (i 59)) (C := RX7) (T := TX7) (N := 92) hx hb hts hinX7 hown hK hP 0 rfl rfl 59 (by decide) w_0 rfl rfl dX7_keeps_35 ?_
    refine k_ci (wc := [(h, .inr (7, oM r i j))]) (wr := [((r 49), .inl (cI, 22, .inl f49)), ((r 50), .inl (cI, 22, .inl f50)), ((r 51), .inl (cI, 22, .inl f51)), ((r 52), .inl (cI, 22, .inl f52)), ((r 53), .inl (cI, 22, .inl f53)), ((r 54), .inl (cI, 1100, .inl f54)), ((r 55), .inl (cI, 1100, .inl f55)), ((r 56), .inl (cI, 1100, .inl f56)), ((r 57), .inl (cI, 1100, .inl f57))]) (fun hPc hDc hFc => va_runV (As := [.int (i 59)]) (rest := [.ref h]) ⟨hx, hb, hml, hown, hts⟩ (s_X7_ring_v0 l dC dI cI cJ cZ cM h r i j (i 59) (iR_w f_32_2 (by decide +kernel)) hI H.size) (cwV 1 hts gX7_keeps_X7_ring rfl rfl rfl (by decide +kernel) ⟨(Nat.le_of_ble_eq_true rfl), (Nat.le_of_ble_eq_true rfl)⟩) (k_pV hPc hDc hK hN hC hS hFc hP (q0 := 0) (ci := 7) rfl rfl) rfl rfl hl.1 rfl (lv_room (Nat.le_of_ble_eq_true rfl)) dX7_keeps_38 ⟨(Nat.le_of_ble_eq_true rfl), (Nat.le_of_ble_eq_true rfl)⟩) hP hD hS hA [0] [1, 2, 3, 4, 5, 6, 7, 8, 9] rfl rfl rfl rfl (by decide) (fun _ => rfl) 0 0 rfl rfl (fun r_38p6 u_38p6 H locs hw hP hD hS => ?_)
    have g_38p6_0 := hw
    have hP : va_P (dC, dI) vwCl [((r 49), .inl (cI, 22, .inl f49)), ((r 50), .inl (cI, 22, .inl f50)), ((r 51), .inl (cI, 22, .inl f51)), ((r 52), .inl (cI, 22, .inl f52)), ((r 53), .inl (cI, 22, .inl f53)), ((r 54), .inl (cI, 1100, .inl f54)), ((r 55), .inl (cI, 1100, .inl f55)), ((r 56), .inl (cI, 1100, .inl f56)), ((r 57), .inl (cI, 1100, .inl f57)), (h, .inr (7, oM r i j))] H := hP
    have hD : va_D A [((r 49), .inl (cI, 22, .inl f49)), ((r 50), .inl (cI, 22, .inl f50)), ((r 51), .inl (cI, 22, .inl f51)), ((r 52), .inl (cI, 22, .inl f52)), ((r 53), .inl (cI, 22, .inl f53)), ((r 54), .inl (cI, 1100, .inl f54)), ((r 55), .inl (cI, 1100, .inl f55)), ((r 56), .inl (cI, 1100, .inl f56)), ((r 57), .inl (cI, 1100, .inl f57)), (h, .inr (7, oM r i j))] := hD
    refine lv_iconst (v := 0) hx hb dX7_keeps_41 (by decide +kernel) ?_
    refine k_cv (wc := [(h, .inr (7, oM r i j)), ((r 49), .inl (cI, 22, .inl f49)), ((r 50), .inl (cI, 22, .inl f50)), ((r 51), .inl (cI, 22, .inl f51)), ((r 52), .inl (cI, 22, .inl f52)), ((r 53), .inl (cI, 22, .inl f53)), ((r 54), .inl (cI, 1100, .inl f54)), ((r 55), .inl (cI, 1100, .inl f55)), ((r 56), .inl (cI, 1100, .inl f56)), ((r 57), .inl (cI, 1100, .inl f57))]) (wr := []) (fun hPc hDc hFc => va_runV (As := [.int r_38p6, .int 0]) (rest := []) ⟨hx, hb, hml, hown, hts⟩ (s_X7_copies_v0 l dC dI cI cJ cZ cM h r i j r_38p6 0 f49 f50 f51 f52 f53 f54 f55 f56 f57 (iR_w g_38p6_0 (by decide +kernel)) (iR_c (n := 0) (a := 0) (b := 21) (by decide +kernel) (by decide +kernel)) hI hf49 hf50 hf53 H.size) (cwV 2 hts gX7_keeps_X7_copies rfl rfl rfl (by decide +kernel) ⟨(Nat.le_of_ble_eq_true rfl), (Nat.le_of_ble_eq_true rfl)⟩) (k_pV hPc hDc hK hN hC hS hFc hP (q0 := 9) (ci := 7) rfl rfl) rfl rfl hl.1 rfl (lv_room (Nat.le_of_ble_eq_true rfl)) dX7_keeps_42 ⟨(Nat.le_of_ble_eq_true rfl), (Nat.le_of_ble_eq_true rfl)⟩) hP hD hS hA [9, 0, 1, 2, 3, 4, 5, 6, 7, 8] [] rfl rfl rfl rfl (by decide) (fun _ => rfl) 0 0 rfl rfl (fun u_42p6 H locs hw hP hD hS => ?_)
    have hP : va_P (dC, dI) vwCl [(h, .inr (7, oM r i j)), ((r 49), .inl (cI, 22, .inl (upd f49 r_38p6.toNatClampNeg (f49 0)))), ((r 50), .inl (cI, 22, .inl (upd f50 r_38p6.toNatClampNeg (f50 0)))), ((r 51), .inl (cI, 22, .inl (upd f51 r_38p6.toNatClampNeg (f51 0)))), ((r 52), .inl (cI, 22, .inl (upd f52 r_38p6.toNatClampNeg (f52 0)))), ((r 53), .inl (cI, 22, .inl (upd f53 r_38p6.toNatClampNeg (f53 0)))), ((r 54), .inl (cI, 1100, .inl (u_42p6.2.2.1 0))), ((r 55), .inl (cI, 1100, .inl (u_42p6.2.2.1 1))), ((r 56), .inl (cI, 1100, .inl (u_42p6.2.2.1 2))), ((r 57), .inl (cI, 1100, .inl (u_42p6.2.2.1 3)))] H := hP
    have hD : va_D A [(h, .inr (7, oM r i j)), ((r 49), .inl (cI, 22, .inl (upd f49 r_38p6.toNatClampNeg (f49 0)))), ((r 50), .inl (cI, 22, .inl (upd f50 r_38p6.toNatClampNeg (f50 0)))), ((r 51), .inl (cI, 22, .inl (upd f51 r_38p6.toNatClampNeg (f51 0)))), ((r 52), .inl (cI, 22, .inl (upd f52 r_38p6.toNatClampNeg (f52 0)))), ((r 53), .inl (cI, 22, .inl (upd f53 r_38p6.toNatClampNeg (f53 0)))), ((r 54), .inl (cI, 1100, .inl (u_42p6.2.2.1 0))), ((r 55), .inl (cI, 1100, .inl (u_42p6.2.2.1 1))), ((r 56), .inl (cI, 1100, .inl (u_42p6.2.2.1 2))), ((r 57), .inl (cI, 1100, .inl (u_42p6.2.2.1 3)))] := hD
    refine lv_aload_n hx hb dX7_keeps_45 rfl (lv_at hl 0 rfl) ?_
    refine lv_dup hx hb dX7_keeps_46 rfl ?_
    refine k_get (D := (dC, dI)) (ci := 7) (v := .int (i 59)) (C := RX7) (T := TX7) (N := 92) hx hb hts hinX7 hown hK hP 0 rfl rfl 59 (by decide) w_0 rfl rfl dX7_keeps_47 ?_
    refine lv_iconst (v := 1) hx hb dX7_keeps_50 (by decide +kernel) ?_
    refine lv_iadd hx hb dX7_keeps_51 ?_
    refine lv_topi (fun y_51p6 ey_51p6 => ?_)
    have f_51p6_3 : iR y_51p6 1 20 := iR_add ey_51p6 f_32_2 (iR_c (n := 1) (a := 1) (b := 1) (by decide +kernel) (by decide +kernel)) (by decide +kernel)
    refine k_put (D := (dC, dI)) (ci := 7) (v := .int y_51p6) (C := RX7) (T := TX7) (N := 92) (ws' := [(h, .inr (7, oM r (upd i 59 y_51p6) j)), ((r 49), .inl (cI, 22, .inl (upd f49 r_38p6.toNatClampNeg (f49 0)))), ((r 50), .inl (cI, 22, .inl (upd f50 r_38p6.toNatClampNeg (f50 0)))), ((r 51), .inl (cI, 22, .inl (upd f51 r_38p6.toNatClampNeg (f51 0)))), ((r 52), .inl (cI, 22, .inl (upd f52 r_38p6.toNatClampNeg (f52 0)))), ((r 53), .inl (cI, 22, .inl (upd f53 r_38p6.toNatClampNeg (f53 0)))), ((r 54), .inl (cI, 1100, .inl (u_42p6.2.2.1 0))), ((r 55), .inl (cI, 1100, .inl (u_42p6.2.2.1 1))), ((r 56), .inl (cI, 1100, .inl (u_42p6.2.2.1 2))), ((r 57), .inl (cI, 1100, .inl (u_42p6.2.2.1 3)))]) hx hb hts hinX7 tyX7 tyX7_ok nmX7 hown hK hP hD hS 0 rfl rfl 59 (by decide) w_0 rfl rfl rfl rfl (Nat.le_of_ble_eq_true rfl) rfl dX7_keeps_52 (fun H locs hP hD hS => ?_)
    exact k_rv B hP hD hS dX7_keeps_55 ((fun k9 => match k9 with | 0 => (i 58) | 1 => y_51p6 | _ => 0), (fun _ => 0), (fun k9 => match k9 with | 0 => (upd f49 r_38p6.toNatClampNeg (f49 0)) | 1 => (upd f50 r_38p6.toNatClampNeg (f50 0)) | 2 => (upd f51 r_38p6.toNatClampNeg (f51 0)) | 3 => (upd f52 r_38p6.toNatClampNeg (f52 0)) | 4 => (upd f53 r_38p6.toNatClampNeg (f53 0)) | 5 => (u_42p6.2.2.1 0) | 6 => (u_42p6.2.2.1 1) | 7 => (u_42p6.2.2.1 2) | 8 => (u_42p6.2.2.1 3) | _ => (fun _ => 0)), (fun _ => (fun _ => 0)), (fun _ => 0)) [0, 1, 2, 3, 4, 5, 6, 7, 8, 9] rfl rfl (Nat.le_of_ble_eq_true rfl) (Nat.le_of_ble_eq_true rfl) ⟨(show iR (i 58) 0 19 from (hI 58)), (show iR y_51p6 1 20 from f_51p6_3), (show aR (upd f49 r_38p6.toNatClampNeg (f49 0)) 0 1023 from (aR_upd _ hf49 (show iR (f49 0) 0 1023 from hf49 _))), (show aR (upd f50 r_38p6.toNatClampNeg (f50 0)) 0 999 from (aR_upd _ hf50 (show iR (f50 0) 0 999 from hf50 _))), (show aR (upd f53 r_38p6.toNatClampNeg (f53 0)) 0 50 from (aR_upd _ hf53 (show iR (f53 0) 0 50 from hf53 _)))⟩
  · have c_6 : (i 59) = 20 := c_6
    have f_9_2 : iR (i 59) 20 20 := iR_eqL c_6 f_1_1 (iR_c (n := 20) (a := 20) (b := 20) (by decide +kernel) (by decide +kernel)) (by decide +kernel)
    refine lv_aload_n hx hb dX7_keeps_9 rfl (lv_at hl 0 rfl) ?_
    refine lv_aload_n hx hb dX7_keeps_10 rfl (lv_at hl 0 rfl) ?_
    have f_11_3 : iR (i 58) 0 19 := hI 58
    refine k_get (D := (dC, dI)) (ci := 7) (v := .int (i 58)) (C := RX7) (T := TX7) (N := 92) hx hb hts hinX7 hown hK hP 0 rfl rfl 58 (by decide) w_1 rfl rfl dX7_keeps_11 ?_
    refine lv_iconst (v := 1) hx hb dX7_keeps_14 (by decide +kernel) ?_
    refine lv_iadd hx hb dX7_keeps_15 ?_
    refine lv_topi (fun y_15 ey_15 => ?_)
    have f_15_4 : iR y_15 1 20 := iR_add ey_15 f_11_3 (iR_c (n := 1) (a := 1) (b := 1) (by decide +kernel) (by decide +kernel)) (by decide +kernel)
    refine lv_bipush (v := 20) hx hb dX7_keeps_16 (by decide +kernel) ?_
    refine lv_irem hx hb dX7_keeps_18 (i_nz (iR_c (n := 20) (a := 20) (b := 20) (by decide +kernel) (by decide +kernel)) (by decide +kernel)) ?_
    refine lv_topi (fun y_18 ey_18 => ?_)
    have f_18_5 : iR y_18 0 19 := iR_rem ey_18 f_15_4 (iR_c (n := 20) (a := 20) (b := 20) (by decide +kernel) (by decide +kernel)) (by decide +kernel)
    refine k_put (D := (dC, dI)) (ci := 7) (v := .int y_18) (C := RX7) (T := TX7) (N := 92) (ws' := [(h, .inr (7, oM r (upd i 58 y_18) j)), ((r 49), .inl (cI, 22, .inl f49)), ((r 50), .inl (cI, 22, .inl f50)), ((r 51), .inl (cI, 22, .inl f51)), ((r 52), .inl (cI, 22, .inl f52)), ((r 53), .inl (cI, 22, .inl f53)), ((r 54), .inl (cI, 1100, .inl f54)), ((r 55), .inl (cI, 1100, .inl f55)), ((r 56), .inl (cI, 1100, .inl f56)), ((r 57), .inl (cI, 1100, .inl f57))]) hx hb hts hinX7 tyX7 tyX7_ok nmX7 hown hK hP hD hS 0 rfl rfl 58 (by decide) w_1 rfl rfl rfl rfl (Nat.le_of_ble_eq_true rfl) rfl dX7_keeps_19 (fun H locs hP hD hS => ?_)
    refine lv_aload_n hx hb dX7_keeps_22 rfl (lv_at hl 0 rfl) ?_
    refine lv_dup hx hb dX7_keeps_23 rfl ?_
    refine k_get (D := (dC, dI)) (ci := 7) (v := .int (i 59)) (C := RX7) (T := TX7) (N := 92) hx hb hts hinX7 hown hK hP 0 rfl rfl 59 (by decide) w_0 rfl rfl dX7_keeps_24 ?_
    refine lv_iconst (v := 1) hx hb dX7_keeps_27 (by decide +kernel) ?_
    refine lv_isub hx hb dX7_keeps_28 ?_
    refine lv_topi (fun y_28 ey_28 => ?_)
    have f_28_6 : iR y_28 19 19 := iR_sub ey_28 f_9_2 (iR_c (n := 1) (a := 1) (b := 1) (by decide +kernel) (by decide +kernel)) (by decide +kernel)
    refine k_put (D := (dC, dI)) (ci := 7) (v := .int y_28) (C := RX7) (T := TX7) (N := 92) (ws' := [(h, .inr (7, oM r (upd (upd i 58 y_18) 59 y_28) j)), ((r 49), .inl (cI, 22, .inl f49)), ((r 50), .inl (cI, 22, .inl f50)), ((r 51), .inl (cI, 22, .inl f51)), ((r 52), .inl (cI, 22, .inl f52)), ((r 53), .inl (cI, 22, .inl f53)), ((r 54), .inl (cI, 1100, .inl f54)), ((r 55), .inl (cI, 1100, .inl f55)), ((r 56), .inl (cI, 1100, .inl f56)), ((r 57), .inl (cI, 1100, .inl f57))]) hx hb hts hinX7 tyX7 tyX7_ok nmX7 hown hK hP hD hS 0 rfl rfl 59 (by decide) w_0 rfl rfl rfl rfl (Nat.le_of_ble_eq_true rfl) rfl dX7_keeps_29 (fun H locs hP hD hS => ?_)
    refine lv_aload_n hx hb dX7_keeps_32 rfl (lv_at hl 0 rfl) ?_
    refine lv_aload_n hx hb dX7_keeps_33 rfl (lv_at hl 0 rfl) ?_
    refine lv_aload_n hx hb dX7_keeps_34 rfl (lv_at hl 0 rfl) ?_
    refine k_get (D := (dC, dI)) (ci := 7) (v := .int y_28) (C := RX7) (T := TX7) (N := 92) hx hb hts hinX7 hown hK hP 0 rfl rfl 59 (by decide) w_0 rfl rfl dX7_keeps_35 ?_
    refine k_ci (wc := [(h, .inr (7, oM r (upd (upd i 58 y_18) 59 y_28) j))]) (wr := [((r 49), .inl (cI, 22, .inl f49)), ((r 50), .inl (cI, 22, .inl f50)), ((r 51), .inl (cI, 22, .inl f51)), ((r 52), .inl (cI, 22, .inl f52)), ((r 53), .inl (cI, 22, .inl f53)), ((r 54), .inl (cI, 1100, .inl f54)), ((r 55), .inl (cI, 1100, .inl f55)), ((r 56), .inl (cI, 1100, .inl f56)), ((r 57), .inl (cI, 1100, .inl f57))]) (fun hPc hDc hFc => va_runV (As := [.int y_28]) (rest := [.ref h]) ⟨hx, hb, hml, hown, hts⟩ (s_X7_ring_v0 l dC dI cI cJ cZ cM h r (upd (upd i 58 y_18) 59 y_28) j y_28 (iR_w f_28_6 (by decide +kernel)) (mR_upd 59 (mR_upd 58 hI (show iR _ (loI 58) (hiI 58) from f_18_5)) (show iR _ (loI 59) (hiI 59) from (iR_w f_28_6 (by decide +kernel)))) H.size) (cwV 1 hts gX7_keeps_X7_ring rfl rfl rfl (by decide +kernel) ⟨(Nat.le_of_ble_eq_true rfl), (Nat.le_of_ble_eq_true rfl)⟩) (k_pV hPc hDc hK hN hC hS hFc hP (q0 := 0) (ci := 7) rfl rfl) rfl rfl hl.1 rfl (lv_room (Nat.le_of_ble_eq_true rfl)) dX7_keeps_38 ⟨(Nat.le_of_ble_eq_true rfl), (Nat.le_of_ble_eq_true rfl)⟩) hP hD hS hA [0] [1, 2, 3, 4, 5, 6, 7, 8, 9] rfl rfl rfl rfl (by decide) (fun _ => rfl) 0 0 rfl rfl (fun r_38p29 u_38p29 H locs hw hP hD hS => ?_)
    have g_38p29_0 := hw
    have hP : va_P (dC, dI) vwCl [((r 49), .inl (cI, 22, .inl f49)), ((r 50), .inl (cI, 22, .inl f50)), ((r 51), .inl (cI, 22, .inl f51)), ((r 52), .inl (cI, 22, .inl f52)), ((r 53), .inl (cI, 22, .inl f53)), ((r 54), .inl (cI, 1100, .inl f54)), ((r 55), .inl (cI, 1100, .inl f55)), ((r 56), .inl (cI, 1100, .inl f56)), ((r 57), .inl (cI, 1100, .inl f57)), (h, .inr (7, oM r (upd (upd i 58 y_18) 59 y_28) j))] H := hP
    have hD : va_D A [((r 49), .inl (cI, 22, .inl f49)), ((r 50), .inl (cI, 22, .inl f50)), ((r 51), .inl (cI, 22, .inl f51)), ((r 52), .inl (cI, 22, .inl f52)), ((r 53), .inl (cI, 22, .inl f53)), ((r 54), .inl (cI, 1100, .inl f54)), ((r 55), .inl (cI, 1100, .inl f55)), ((r 56), .inl (cI, 1100, .inl f56)), ((r 57), .inl (cI, 1100, .inl f57)), (h, .inr (7, oM r (upd (upd i 58 y_18) 59 y_28) j))] := hD
    refine lv_iconst (v := 0) hx hb dX7_keeps_41 (by decide +kernel) ?_
    refine k_cv (wc := [(h, .inr (7, oM r (upd (upd i 58 y_18) 59 y_28) j)), ((r 49), .inl (cI, 22, .inl f49)), ((r 50), .inl (cI, 22, .inl f50)), ((r 51), .inl (cI, 22, .inl f51)), ((r 52), .inl (cI, 22, .inl f52)), ((r 53), .inl (cI, 22, .inl f53)), ((r 54), .inl (cI, 1100, .inl f54)), ((r 55), .inl (cI, 1100, .inl f55)), ((r 56), .inl (cI, 1100, .inl f56)), ((r 57), .inl (cI, 1100, .inl f57))]) (wr := []) (fun hPc hDc hFc => va_runV (As := [.int r_38p29, .int 0]) (rest := []) ⟨hx, hb, hml, hown, hts⟩ (s_X7_copies_v0 l dC dI cI cJ cZ cM h r (upd (upd i 58 y_18) 59 y_28) j r_38p29 0 f49 f50 f51 f52 f53 f54 f55 f56 f57 (iR_w g_38p29_0 (by decide +kernel)) (iR_c (n := 0) (a := 0) (b := 21) (by decide +kernel) (by decide +kernel)) (mR_upd 59 (mR_upd 58 hI (show iR _ (loI 58) (hiI 58) from f_18_5)) (show iR _ (loI 59) (hiI 59) from (iR_w f_28_6 (by decide +kernel)))) hf49 hf50 hf53 H.size) (cwV 2 hts gX7_keeps_X7_copies rfl rfl rfl (by decide +kernel) ⟨(Nat.le_of_ble_eq_true rfl), (Nat.le_of_ble_eq_true rfl)⟩) (k_pV hPc hDc hK hN hC hS hFc hP (q0 := 9) (ci := 7) rfl rfl) rfl rfl hl.1 rfl (lv_room (Nat.le_of_ble_eq_true rfl)) dX7_keeps_42 ⟨(Nat.le_of_ble_eq_true rfl), (Nat.le_of_ble_eq_true rfl)⟩) hP hD hS hA [9, 0, 1, 2, 3, 4, 5, 6, 7, 8] [] rfl rfl rfl rfl (by decide) (fun _ => rfl) 0 0 rfl rfl (fun u_42p29 H locs hw hP hD hS => ?_)
    have hP : va_P (dC, dI) vwCl [(h, .inr (7, oM r (upd (upd i 58 y_18) 59 y_28) j)), ((r 49), .inl (cI, 22, .inl (upd f49 r_38p29.toNatClampNeg (f49 0)))), ((r 50), .inl (cI, 22, .inl (upd f50 r_38p29.toNatClampNeg (f50 0)))), ((r 51), .inl (cI, 22, .inl (upd f51 r_38p29.toNatClampNeg (f51 0)))), ((r 52), .inl (cI, 22, .inl (upd f52 r_38p29.toNatClampNeg (f52 0)))), ((r 53), .inl (cI, 22, .inl (upd f53 r_38p29.toNatClampNeg (f53 0)))), ((r 54), .inl (cI, 1100, .inl (u_42p29.2.2.1 0))), ((r 55), .inl (cI, 1100, .inl (u_42p29.2.2.1 1))), ((r 56), .inl (cI, 1100, .inl (u_42p29.2.2.1 2))), ((r 57), .inl (cI, 1100, .inl (u_42p29.2.2.1 3)))] H := hP
    have hD : va_D A [(h, .inr (7, oM r (upd (upd i 58 y_18) 59 y_28) j)), ((r 49), .inl (cI, 22, .inl (upd f49 r_38p29.toNatClampNeg (f49 0)))), ((r 50), .inl (cI, 22, .inl (upd f50 r_38p29.toNatClampNeg (f50 0)))), ((r 51), .inl (cI, 22, .inl (upd f51 r_38p29.toNatClampNeg (f51 0)))), ((r 52), .inl (cI, 22, .inl (upd f52 r_38p29.toNatClampNeg (f52 0)))), ((r 53), .inl (cI, 22, .inl (upd f53 r_38p29.toNatClampNeg (f53 0)))), ((r 54), .inl (cI, 1100, .inl (u_42p29.2.2.1 0))), ((r 55), .inl (cI, 1100, .inl (u_42p29.2.2.1 1))), ((r 56), .inl (cI, 1100, .inl (u_42p29.2.2.1 2))), ((r 57), .inl (cI, 1100, .inl (u_42p29.2.2.1 3)))] := hD
    refine lv_aload_n hx hb dX7_keeps_45 rfl (lv_at hl 0 rfl) ?_
    refine lv_dup hx hb dX7_keeps_46 rfl ?_
    refine k_get (D := (dC, dI)) (ci := 7) (v := .int y_28) (C := RX7) (T := TX7) (N := 92) hx hb hts hinX7 hown hK hP 0 rfl rfl 59 (by decide) w_0 rfl rfl dX7_keeps_47 ?_
    refine lv_iconst (v := 1) hx hb dX7_keeps_50 (by decide +kernel) ?_
    refine lv_iadd hx hb dX7_keeps_51 ?_
    refine lv_topi (fun y_51p29 ey_51p29 => ?_)
    have f_51p29_7 : iR y_51p29 20 20 := iR_add ey_51p29 f_28_6 (iR_c (n := 1) (a := 1) (b := 1) (by decide +kernel) (by decide +kernel)) (by decide +kernel)
    refine k_put (D := (dC, dI)) (ci := 7) (v := .int y_51p29) (C := RX7) (T := TX7) (N := 92) (ws' := [(h, .inr (7, oM r (upd (upd i 58 y_18) 59 y_51p29) j)), ((r 49), .inl (cI, 22, .inl (upd f49 r_38p29.toNatClampNeg (f49 0)))), ((r 50), .inl (cI, 22, .inl (upd f50 r_38p29.toNatClampNeg (f50 0)))), ((r 51), .inl (cI, 22, .inl (upd f51 r_38p29.toNatClampNeg (f51 0)))), ((r 52), .inl (cI, 22, .inl (upd f52 r_38p29.toNatClampNeg (f52 0)))), ((r 53), .inl (cI, 22, .inl (upd f53 r_38p29.toNatClampNeg (f53 0)))), ((r 54), .inl (cI, 1100, .inl (u_42p29.2.2.1 0))), ((r 55), .inl (cI, 1100, .inl (u_42p29.2.2.1 1))), ((r 56), .inl (cI, 1100, .inl (u_42p29.2.2.1 2))), ((r 57), .inl (cI, 1100, .inl (u_42p29.2.2.1 3)))]) hx hb hts hinX7 tyX7 tyX7_ok nmX7 hown hK hP hD hS 0 rfl rfl 59 (by decide) w_0 rfl rfl rfl rfl (Nat.le_of_ble_eq_true rfl) rfl dX7_keeps_52 (fun H locs hP hD hS => ?_)
    exact k_rv B hP hD hS dX7_keeps_55 ((fun k9 => match k9 with | 0 => y_18 | 1 => y_51p29 | _ => 0), (fun _ => 0), (fun k9 => match k9 with | 0 => (upd f49 r_38p29.toNatClampNeg (f49 0)) | 1 => (upd f50 r_38p29.toNatClampNeg (f50 0)) | 2 => (upd f51 r_38p29.toNatClampNeg (f51 0)) | 3 => (upd f52 r_38p29.toNatClampNeg (f52 0)) | 4 => (upd f53 r_38p29.toNatClampNeg (f53 0)) | 5 => (u_42p29.2.2.1 0) | 6 => (u_42p29.2.2.1 1) | 7 => (u_42p29.2.2.1 2) | 8 => (u_42p29.2.2.1 3) | _ => (fun _ => 0)), (fun _ => (fun _ => 0)), (fun _ => 0)) [0, 1, 2, 3, 4, 5, 6, 7, 8, 9] rfl rfl (Nat.le_of_ble_eq_true rfl) (Nat.le_of_ble_eq_true rfl) ⟨(show iR y_18 0 19 from f_18_5), (show iR y_51p29 1 20 from (iR_w f_51p29_7 (by decide +kernel))), (show aR (upd f49 r_38p29.toNatClampNeg (f49 0)) 0 1023 from (aR_upd _ hf49 (show iR (f49 0) 0 1023 from hf49 _))), (show aR (upd f50 r_38p29.toNatClampNeg (f50 0)) 0 999 from (aR_upd _ hf50 (show iR (f50 0) 0 999 from hf50 _))), (show aR (upd f53 r_38p29.toNatClampNeg (f53 0)) 0 50 from (aR_upd _ hf53 (show iR (f53 0) 0 50 from hf53 _)))⟩
set_option maxHeartbeats 8000000 in
set_option maxRecDepth 100000 in
theorem s_X7_briefOnes_v0 (l : Launch) (dC : Nat → ClassId) (dI : Nat → Nat → Nat) (cI cJ cZ cM : ClassId) (h : Nat) (r : Nat → Nat) (i : Nat → Int32) (j : Nat → Int64) (f14 : Nat → Int32) (f17 : Nat → Int32) (hI : mR i) (hf14 : aR f14 0 10) (hf17 : aR f17 0 1) : k_Mi l yX7_briefOnes wsX7_briefOnes ({ frames := 1, cells := 0, slots := 0, locals := 40 }) (dC, dI) vwCl (tyy cI cJ cZ cM) [(h, .inr (7, oM r i j)), ((r 14), .inl (cI, 2, .inl f14)), ((r 17), .inl (cI, 20, .inl f17))] [.ref h] 0 0 (fun (u9 : Unit) => [(h, .inr (7, oM r i j)), ((r 14), .inl (cI, 2, .inl f14)), ((r 17), .inl (cI, 20, .inl f17))]) (fun (r9 : Int32) (u9 : Unit) => (iR r9 0 1023)) := by
  refine fun sz => k_enter (cc := cX7_briefOnes) (maxL := 3) (ret := some (.int)) (Qc := fun A => va_Qi (fun (r9 : Int32) (u9 : Unit) => (iR r9 0 1023)) (fun u => k_B (dC, dI) vwCl (tyy cI cJ cZ cM) A ((fun (u9 : Unit) => [(h, .inr (7, oM r i j)), ((r 14), .inl (cI, 2, .inl f14)), ((r 17), .inl (cI, 20, .inl f17))]) u)) A) sz (by decide +kernel) rfl (Nat.le_of_ble_eq_true rfl) (fun p e s m args below meth c A ls H locs B hP hD hS hl => ?_)
  obtain ⟨hx, hb, hml, hown, hts, hr, hlk, hnm, hK, hA, hN, hC⟩ := id B
  have hown : s.vm.findClass RX7 = some m.cls := hown
  have hl : lv_has ls 3 [(0, .ref h)] := hl
  have w_0 : (Cond.fieldLink RX7 54 "WishSeaModel" "things" "[I").before args s = true := hts _ (List.mem_of_getElem? (i := 1) rfl)
  have w_1 : (Cond.fieldLink RX7 51 "WishSeaModel" "bank" "I").before args s = true := hts _ (List.mem_of_getElem? (i := 2) rfl)
  have w_2 : (Cond.fieldLink RX7 63 "WishSeaModel" "thingBrief" "[I").before args s = true := hts _ (List.mem_of_getElem? (i := 3) rfl)
  have hinX7 : ∀ w ∈ u_ws RX7 TX7 92, w ∈ wsX7_briefOnes := fun _ h => List.mem_cons_of_mem _ (List.mem_append_right _ h)
  refine lv_iconst (v := 0) hx hb dX7_briefOnes_0 (by decide +kernel) ?_
  refine lv_istore_n (lv' := [(1, .int 0), (0, .ref h)]) hx hb dX7_briefOnes_1 rfl hl (by decide) rfl (fun ls hl => ?_)
  refine lv_iconst (v := 0) hx hb dX7_briefOnes_2 (by decide +kernel) ?_
  have J_4 : ∀ (n_4 : Nat) (j4_L1 : Int32) (j4_L2 : Int32) (hj4_L1 : iR j4_L1 0 1023) (hj4_L2 : iR j4_L2 0 10) (hm_4 : (10 - j4_L2.toInt).toNat < n_4) (H : Heap) (locs : List Loc) (ls : Array Slot), va_P (dC, dI) vwCl [(h, .inr (7, oM r i j)), ((r 14), .inl (cI, 2, .inl f14)), ((r 17), .inl (cI, 20, .inl f17))] H → va_D A [(h, .inr (7, oM r i j)), ((r 14), .inl (cI, 2, .inl f14)), ((r 17), .inl (cI, 20, .inl f17))] → va_S A s.heap H locs → lv_has ls 3 [(0, .ref h), (1, .int j4_L1), (2, .int j4_L2)] → W p l e ({ frames := 1, cells := 0, slots := 0, locals := 40 }) s m args below meth c H locs 0 0 (MQ below (va_Qi (fun (r9 : Int32) (u9 : Unit) => (iR r9 0 1023)) (fun u => k_B (dC, dI) vwCl (tyy cI cJ cZ cM) A ((fun (u9 : Unit) => [(h, .inr (7, oM r i j)), ((r 14), .inl (cI, 2, .inl f14)), ((r 17), .inl (cI, 20, .inl f17))]) u)) A) args s 0 0 A) (F0 m 4 ls []) := by
    intro n_4
    induction n_4 with
    | zero => intro j4_L1 j4_L2 hj4_L1 hj4_L2 hm_4; exact absurd hm_4 (Nat.not_lt_zero _)
    | succ n_4 ih_4 =>
      intro j4_L1 j4_L2 hj4_L1 hj4_L2 hm_4 H locs ls hP hD hS hl
      refine lv_iload_n hx hb dX7_briefOnes_4 rfl (lv_at hl 2 rfl) ?_
      refine lv_aload_n hx hb dX7_briefOnes_5 rfl (lv_at hl 0 rfl) ?_
      refine k_get (D := (dC, dI)) (ci := 7) (v := .ref (r 14)) (C := RX7) (T := TX7) (N := 92) hx hb hts hinX7 hown hK hP 0 rfl rfl 14 (by decide) w_0 rfl rfl dX7_briefOnes_6 ?_
      refine lv_aload_n hx hb dX7_briefOnes_9 rfl (lv_at hl 0 rfl) ?_
      have f_10_1 : iR (i 13) 0 1 := hI 13
      refine k_get (D := (dC, dI)) (ci := 7) (v := .int (i 13)) (C := RX7) (T := TX7) (N := 92) hx hb hts hinX7 hown hK hP 0 rfl rfl 13 (by decide) w_1 rfl rfl dX7_briefOnes_10 ?_
      refine va_iald hx hb hK hP 1 0 rfl rfl (iR_vp f_10_1 (by decide +kernel)) dX7_briefOnes_13 ?_
      have f_13_2 : iR (f14 (i 13).toNatClampNeg) 0 10 := hf14 _
      refine lv_icmp_ge (tgt := 42) hx hb dX7_briefOnes_14 (by decide) (fun c_14 => ?_) (fun c_14 => ?_)
      · have c_14 : (f14 (i 13).toNatClampNeg) ≤ j4_L2 := c_14
        refine lv_iload_n hx hb dX7_briefOnes_42 rfl (lv_at hl 1 rfl) ?_
        exact k_ri B hP hD hS dX7_briefOnes_43 () [0, 1, 2] rfl rfl rfl (Nat.le_of_ble_eq_true rfl) (Nat.le_of_ble_eq_true rfl) (show iR j4_L1 0 1023 from hj4_L1)
      · have c_14 : j4_L2 < (f14 (i 13).toNatClampNeg) := i_nle c_14
        have f_17_3 : iR j4_L2 0 9 := iR_ltL c_14 hj4_L2 f_13_2 (by decide +kernel)
        have f_17_4 : iR (f14 (i 13).toNatClampNeg) 1 10 := iR_ltR c_14 hj4_L2 f_13_2 (by decide +kernel)
        refine lv_iload_n hx hb dX7_briefOnes_17 rfl (lv_at hl 1 rfl) ?_
        refine lv_aload_n hx hb dX7_briefOnes_18 rfl (lv_at hl 0 rfl) ?_
        refine k_get (D := (dC, dI)) (ci := 7) (v := .ref (r 17)) (C := RX7) (T := TX7) (N := 92) hx hb hts hinX7 hown hK hP 0 rfl rfl 17 (by decide) w_2 rfl rfl dX7_briefOnes_19 ?_
        refine lv_bipush (v := 10) hx hb dX7_briefOnes_22 (by decide +kernel) ?_
        refine lv_aload_n hx hb dX7_briefOnes_24 rfl (lv_at hl 0 rfl) ?_
        refine k_get (D := (dC, dI)) (ci := 7) (v := .int (i 13)) (C := RX7) (T := TX7) (N := 92) hx hb hts hinX7 hown hK hP 0 rfl rfl 13 (by decide) w_1 rfl rfl dX7_briefOnes_25 ?_
        refine lv_imul hx hb dX7_briefOnes_28 ?_
        refine lv_topi (fun y_28 ey_28 => ?_)
        have f_28_5 : iR y_28 0 10 := iR_mul ey_28 (iR_c (n := 10) (a := 10) (b := 10) (by decide +kernel) (by decide +kernel)) f_10_1 (by decide +kernel)
        refine lv_iload_n hx hb dX7_briefOnes_29 rfl (lv_at hl 2 rfl) ?_
        refine lv_iadd hx hb dX7_briefOnes_30 ?_
        refine lv_topi (fun y_30 ey_30 => ?_)
        have f_30_6 : iR y_30 0 19 := iR_add ey_30 f_28_5 f_17_3 (by decide +kernel)
        refine va_iald hx hb hK hP 2 0 rfl rfl (iR_vp f_30_6 (by decide +kernel)) dX7_briefOnes_31 ?_
        have f_31_7 : iR (f17 y_30.toNatClampNeg) 0 1 := hf17 _
        refine lv_iload_n hx hb dX7_briefOnes_32 rfl (lv_at hl 2 rfl) ?_
        refine lv_ishl hx hb dX7_briefOnes_33 ?_
        refine lv_topi (fun y_33 ey_33 => ?_)
        have f_33_8 : iR y_33 0 512 := iR_shl 9 ey_33 f_31_7 f_17_3 (by decide +kernel)
        refine lv_ior hx hb dX7_briefOnes_34 ?_
        refine lv_topi (fun y_34 ey_34 => ?_)
        have f_34_9 : iR y_34 0 1023 := iR_or 10 ey_34 hj4_L1 f_33_8 (by decide +kernel)
        refine lv_istore_n (lv' := [(1, .int y_34), (0, .ref h), (2, .int j4_L2)]) hx hb dX7_briefOnes_35 rfl hl (by decide) rfl (fun ls hl => ?_)
        obtain ⟨y_36, ey_36⟩ : ∃ y : Int32, y = j4_L2 + 1 := ⟨_, rfl⟩
        refine lv_iinc (v := y_36) (lv' := [(2, .int y_36), (1, .int y_34), (0, .ref h)]) hx hb dX7_briefOnes_36 hl (k := 2) rfl ey_36.symm (by decide) rfl (fun ls hl => ?_)
        have f_36_10 : iR y_36 1 10 := iR_add ey_36 f_17_3 (iR_c (n := 1) (a := 1) (b := 1) (by decide +kernel) (by decide +kernel)) (by decide +kernel)
        refine lv_goto (tgt := 4) hx hb dX7_briefOnes_39 (by decide) ?_
        exact ih_4 y_34 y_36 f_34_9 (iR_w f_36_10 (by decide +kernel)) (m_up (B := 10) hm_4 ey_36 f_17_3 (by decide +kernel)) H locs ls hP hD hS (lv_sub hl [2, 1, 0] rfl)
  refine lv_istore_n (lv' := [(2, .int 0), (1, .int 0), (0, .ref h)]) hx hb dX7_briefOnes_3 rfl hl (by decide) rfl (fun ls hl => ?_)
  exact J_4 _ 0 0 (iR_c (n := 0) (a := 0) (b := 1023) (by decide +kernel) (by decide +kernel)) (iR_c (n := 0) (a := 0) (b := 10) (by decide +kernel) (by decide +kernel)) (Nat.lt_succ_self _) H locs ls hP hD hS (lv_sub hl [2, 1, 0] rfl)
set_option maxHeartbeats 8000000 in
set_option maxRecDepth 100000 in
theorem s_X7_dayEnds_v0 (l : Launch) (dC : Nat → ClassId) (dI : Nat → Nat → Nat) (cI cJ cZ cM : ClassId) (h : Nat) (r : Nat → Nat) (i : Nat → Int32) (j : Nat → Int64) (x1 : Int32) (f14 : Nat → Int32) (f17 : Nat → Int32) (f31 : Nat → Int32) (f49 : Nat → Int32) (f50 : Nat → Int32) (f51 : Nat → Int32) (f52 : Nat → Int32) (hx1 : iR x1 0 21) (hI : mR i) (hf14 : aR f14 0 10) (hf17 : aR f17 0 1) (hf31 : aR f31 0 999) (hf49 : aR f49 0 1023) (hf50 : aR f50 0 999) : k_Mv l yX7_dayEnds wsX7_dayEnds ({ frames := 2, cells := 0, slots := 0, locals := 62 }) (dC, dI) vwCl (tyy cI cJ cZ cM) [(h, .inr (7, oM r i j)), ((r 14), .inl (cI, 2, .inl f14)), ((r 17), .inl (cI, 20, .inl f17)), ((r 31), .inl (cI, 2, .inl f31)), ((r 49), .inl (cI, 22, .inl f49)), ((r 50), .inl (cI, 22, .inl f50)), ((r 51), .inl (cI, 22, .inl f51)), ((r 52), .inl (cI, 22, .inl f52))] [.ref h, .int x1] 0 0 (fun (u9 : SU) => [(h, .inr (7, oM r i j)), ((r 14), .inl (cI, 2, .inl f14)), ((r 17), .inl (cI, 20, .inl f17)), ((r 31), .inl (cI, 2, .inl f31)), ((r 49), .inl (cI, 22, .inl (u9.2.2.1 0))), ((r 50), .inl (cI, 22, .inl (u9.2.2.1 1))), ((r 51), .inl (cI, 22, .inl (upd f51 x1.toNatClampNeg 0))), ((r 52), .inl (cI, 22, .inl (u9.2.2.1 2)))]) (fun (u9 : SU) => (aR (u9.2.2.1 0) 0 1023) ∧ (aR (u9.2.2.1 1) 0 999)) := by
  refine fun sz => k_enter (cc := cX7_dayEnds) (maxL := 2) (ret := none) (Qc := fun A => va_Qv (fun (u9 : SU) => (aR (u9.2.2.1 0) 0 1023) ∧ (aR (u9.2.2.1 1) 0 999)) (fun u => k_B (dC, dI) vwCl (tyy cI cJ cZ cM) A ((fun (u9 : SU) => [(h, .inr (7, oM r i j)), ((r 14), .inl (cI, 2, .inl f14)), ((r 17), .inl (cI, 20, .inl f17)), ((r 31), .inl (cI, 2, .inl f31)), ((r 49), .inl (cI, 22, .inl (u9.2.2.1 0))), ((r 50), .inl (cI, 22, .inl (u9.2.2.1 1))), ((r 51), .inl (cI, 22, .inl (upd f51 x1.toNatClampNeg 0))), ((r 52), .inl (cI, 22, .inl (u9.2.2.1 2)))]) u)) A) sz (by decide +kernel) rfl (Nat.le_of_ble_eq_true rfl) (fun p e s m args below meth c A ls H locs B hP hD hS hl => ?_)
  obtain ⟨hx, hb, hml, hown, hts, hr, hlk, hnm, hK, hA, hN, hC⟩ := id B
  have hown : s.vm.findClass RX7 = some m.cls := hown
  have hl : lv_has ls 2 [(0, .ref h), (1, .int x1)] := hl
  have w_0 : (Cond.fieldLink RX7 162 "WishSeaModel" "hadOf" "[I").before args s = true := hts _ (List.mem_of_getElem? (i := 1) rfl)
  have w_1 : (Cond.fieldLink RX7 165 "WishSeaModel" "seaOf" "[I").before args s = true := hts _ (List.mem_of_getElem? (i := 2) rfl)
  have w_2 : (Cond.fieldLink RX7 105 "WishSeaModel" "calming" "[I").before args s = true := hts _ (List.mem_of_getElem? (i := 3) rfl)
  have w_3 : (Cond.fieldLink RX7 51 "WishSeaModel" "bank" "I").before args s = true := hts _ (List.mem_of_getElem? (i := 4) rfl)
  have w_4 : (Cond.fieldLink RX7 168 "WishSeaModel" "saidOf" "[I").before args s = true := hts _ (List.mem_of_getElem? (i := 5) rfl)
  have w_5 : (Cond.fieldLink RX7 171 "WishSeaModel" "dayOf" "[I").before args s = true := hts _ (List.mem_of_getElem? (i := 6) rfl)
  have hinX7 : ∀ w ∈ u_ws RX7 TX7 92, w ∈ wsX7_dayEnds := fun _ h => List.mem_cons_of_mem _ (List.mem_append_right _ h)
  refine lv_aload_n hx hb dX7_dayEnds_0 rfl (lv_at hl 0 rfl) ?_
  refine k_get (D := (dC, dI)) (ci := 7) (v := .ref (r 49)) (C := RX7) (T := TX7) (N := 92) hx hb hts hinX7 hown hK hP 0 rfl rfl 49 (by decide) w_0 rfl rfl dX7_dayEnds_1 ?_
  refine lv_iload_n hx hb dX7_dayEnds_4 rfl (lv_at hl 1 rfl) ?_
  refine lv_dup2_11 hx hb dX7_dayEnds_5 rfl rfl ?_
  refine va_iald hx hb hK hP 4 0 rfl rfl (iR_vp hx1 (by decide +kernel)) dX7_dayEnds_6 ?_
  have f_6_1 : iR (f49 x1.toNatClampNeg) 0 1023 := hf49 _
  refine lv_aload_n hx hb dX7_dayEnds_7 rfl (lv_at hl 0 rfl) ?_
  refine k_ci (wc := [(h, .inr (7, oM r i j)), ((r 14), .inl (cI, 2, .inl f14)), ((r 17), .inl (cI, 20, .inl f17))]) (wr := [((r 31), .inl (cI, 2, .inl f31)), ((r 49), .inl (cI, 22, .inl f49)), ((r 50), .inl (cI, 22, .inl f50)), ((r 51), .inl (cI, 22, .inl f51)), ((r 52), .inl (cI, 22, .inl f52))]) (fun hPc hDc hFc => va_runV (As := []) (rest := [.int (f49 x1.toNatClampNeg), .int x1, .ref (r 49)]) ⟨hx, hb, hml, hown, hts⟩ (s_X7_briefOnes_v0 l dC dI cI cJ cZ cM h r i j f14 f17 hI hf14 hf17 H.size) (cwV 0 hts gX7_dayEnds_X7_briefOnes rfl rfl rfl (by decide +kernel) ⟨(Nat.le_of_ble_eq_true rfl), (Nat.le_of_ble_eq_true rfl)⟩) (k_pV hPc hDc hK hN hC hS hFc hP (q0 := 0) (ci := 7) rfl rfl) rfl rfl hl.1 rfl (lv_room (Nat.le_of_ble_eq_true rfl)) dX7_dayEnds_8 ⟨(Nat.le_of_ble_eq_true rfl), (Nat.le_of_ble_eq_true rfl)⟩) hP hD hS hA [0, 1, 2] [3, 4, 5, 6, 7] rfl rfl rfl rfl (by decide) (fun _ => rfl) 0 0 rfl rfl (fun r_8 u_8 H locs hw hP hD hS => ?_)
  have g_8_0 := hw
  have hP : va_P (dC, dI) vwCl [((r 31), .inl (cI, 2, .inl f31)), ((r 49), .inl (cI, 22, .inl f49)), ((r 50), .inl (cI, 22, .inl f50)), ((r 51), .inl (cI, 22, .inl f51)), ((r 52), .inl (cI, 22, .inl f52)), (h, .inr (7, oM r i j)), ((r 14), .inl (cI, 2, .inl f14)), ((r 17), .inl (cI, 20, .inl f17))] H := hP
  have hD : va_D A [((r 31), .inl (cI, 2, .inl f31)), ((r 49), .inl (cI, 22, .inl f49)), ((r 50), .inl (cI, 22, .inl f50)), ((r 51), .inl (cI, 22, .inl f51)), ((r 52), .inl (cI, 22, .inl f52)), (h, .inr (7, oM r i j)), ((r 14), .inl (cI, 2, .inl f14)), ((r 17), .inl (cI, 20, .inl f17))] := hD
  refine lv_iconst (v := (-1)) hx hb dX7_dayEnds_11 (by decide +kernel) ?_
  refine lv_ixor hx hb dX7_dayEnds_12 ?_
  refine lv_topi (fun y_12 ey_12 => ?_)
  refine lv_iand hx hb dX7_dayEnds_13 ?_
  refine lv_topi (fun y_13 ey_13 => ?_)
  have f_13_2 : iR y_13 0 1023 := iR_andL ey_13 f_6_1 (by decide +kernel)
  refine s_iast (g := (upd f49 x1.toNatClampNeg y_13)) (ws' := [((r 31), .inl (cI, 2, .inl f31)), ((r 49), .inl (cI, 22, .inl (upd f49 x1.toNatClampNeg y_13))), ((r 50), .inl (cI, 22, .inl f50)), ((r 51), .inl (cI, 22, .inl f51)), ((r 52), .inl (cI, 22, .inl f52)), (h, .inr (7, oM r i j)), ((r 14), .inl (cI, 2, .inl f14)), ((r 17), .inl (cI, 20, .inl f17))]) hx hb hK hP hD hS 1 0 rfl rfl (iR_vp hx1 (by decide +kernel)) rfl rfl dX7_dayEnds_14 (fun H locs hP hD hS => ?_)
  refine lv_aload_n hx hb dX7_dayEnds_15 rfl (lv_at hl 0 rfl) ?_
  refine k_get (D := (dC, dI)) (ci := 7) (v := .ref (r 50)) (C := RX7) (T := TX7) (N := 92) hx hb hts hinX7 hown hK hP 5 rfl rfl 50 (by decide) w_1 rfl rfl dX7_dayEnds_16 ?_
  refine lv_iload_n hx hb dX7_dayEnds_19 rfl (lv_at hl 1 rfl) ?_
  refine lv_aload_n hx hb dX7_dayEnds_20 rfl (lv_at hl 0 rfl) ?_
  refine k_get (D := (dC, dI)) (ci := 7) (v := .ref (r 50)) (C := RX7) (T := TX7) (N := 92) hx hb hts hinX7 hown hK hP 5 rfl rfl 50 (by decide) w_1 rfl rfl dX7_dayEnds_21 ?_
  refine lv_iload_n hx hb dX7_dayEnds_24 rfl (lv_at hl 1 rfl) ?_
  refine va_iald hx hb hK hP 2 0 rfl rfl (iR_vp hx1 (by decide +kernel)) dX7_dayEnds_25 ?_
  have f_25_3 : iR (f50 x1.toNatClampNeg) 0 999 := hf50 _
  refine lv_aload_n hx hb dX7_dayEnds_26 rfl (lv_at hl 0 rfl) ?_
  refine k_get (D := (dC, dI)) (ci := 7) (v := .ref (r 31)) (C := RX7) (T := TX7) (N := 92) hx hb hts hinX7 hown hK hP 5 rfl rfl 31 (by decide) w_2 rfl rfl dX7_dayEnds_27 ?_
  refine lv_aload_n hx hb dX7_dayEnds_30 rfl (lv_at hl 0 rfl) ?_
  have f_31_4 : iR (i 13) 0 1 := hI 13
  refine k_get (D := (dC, dI)) (ci := 7) (v := .int (i 13)) (C := RX7) (T := TX7) (N := 92) hx hb hts hinX7 hown hK hP 5 rfl rfl 13 (by decide) w_3 rfl rfl dX7_dayEnds_31 ?_
  refine va_iald hx hb hK hP 0 0 rfl rfl (iR_vp f_31_4 (by decide +kernel)) dX7_dayEnds_34 ?_
  have f_34_5 : iR (f31 (i 13).toNatClampNeg) 0 999 := hf31 _
  have J_58 : ∀ (j58_S0 : Int32) (hj58_S0 : iR j58_S0 0 999) (H : Heap) (locs : List Loc) (ls : Array Slot), va_P (dC, dI) vwCl [(h, .inr (7, oM r i j)), ((r 14), .inl (cI, 2, .inl f14)), ((r 17), .inl (cI, 20, .inl f17)), ((r 31), .inl (cI, 2, .inl f31)), ((r 49), .inl (cI, 22, .inl (upd f49 x1.toNatClampNeg y_13))), ((r 50), .inl (cI, 22, .inl f50)), ((r 51), .inl (cI, 22, .inl f51)), ((r 52), .inl (cI, 22, .inl f52))] H → va_D A [(h, .inr (7, oM r i j)), ((r 14), .inl (cI, 2, .inl f14)), ((r 17), .inl (cI, 20, .inl f17)), ((r 31), .inl (cI, 2, .inl f31)), ((r 49), .inl (cI, 22, .inl (upd f49 x1.toNatClampNeg y_13))), ((r 50), .inl (cI, 22, .inl f50)), ((r 51), .inl (cI, 22, .inl f51)), ((r 52), .inl (cI, 22, .inl f52))] → va_S A s.heap H locs → lv_has ls 2 [(0, .ref h), (1, .int x1)] → W p l e ({ frames := 2, cells := 0, slots := 0, locals := 62 }) s m args below meth c H locs 0 0 (MQ below (va_Qv (fun (u9 : SU) => (aR (u9.2.2.1 0) 0 1023) ∧ (aR (u9.2.2.1 1) 0 999)) (fun u => k_B (dC, dI) vwCl (tyy cI cJ cZ cM) A ((fun (u9 : SU) => [(h, .inr (7, oM r i j)), ((r 14), .inl (cI, 2, .inl f14)), ((r 17), .inl (cI, 20, .inl f17)), ((r 31), .inl (cI, 2, .inl f31)), ((r 49), .inl (cI, 22, .inl (u9.2.2.1 0))), ((r 50), .inl (cI, 22, .inl (u9.2.2.1 1))), ((r 51), .inl (cI, 22, .inl (upd f51 x1.toNatClampNeg 0))), ((r 52), .inl (cI, 22, .inl (u9.2.2.1 2)))]) u)) A) args s 0 0 A) (F0 m 58 ls [.int j58_S0, .int x1, .ref (r 50)]) := by
    intro j58_S0 hj58_S0 H locs ls hP hD hS hl
    refine s_iast (g := (upd f50 x1.toNatClampNeg j58_S0)) (ws' := [(h, .inr (7, oM r i j)), ((r 14), .inl (cI, 2, .inl f14)), ((r 17), .inl (cI, 20, .inl f17)), ((r 31), .inl (cI, 2, .inl f31)), ((r 49), .inl (cI, 22, .inl (upd f49 x1.toNatClampNeg y_13))), ((r 50), .inl (cI, 22, .inl (upd f50 x1.toNatClampNeg j58_S0))), ((r 51), .inl (cI, 22, .inl f51)), ((r 52), .inl (cI, 22, .inl f52))]) hx hb hK hP hD hS 5 0 rfl rfl (iR_vp hx1 (by decide +kernel)) rfl rfl dX7_dayEnds_58 (fun H locs hP hD hS => ?_)
    refine lv_aload_n hx hb dX7_dayEnds_59 rfl (lv_at hl 0 rfl) ?_
    refine k_get (D := (dC, dI)) (ci := 7) (v := .ref (r 51)) (C := RX7) (T := TX7) (N := 92) hx hb hts hinX7 hown hK hP 0 rfl rfl 51 (by decide) w_4 rfl rfl dX7_dayEnds_60 ?_
    refine lv_iload_n hx hb dX7_dayEnds_63 rfl (lv_at hl 1 rfl) ?_
    refine lv_iconst (v := 0) hx hb dX7_dayEnds_64 (by decide +kernel) ?_
    refine s_iast (g := (upd f51 x1.toNatClampNeg 0)) (ws' := [(h, .inr (7, oM r i j)), ((r 14), .inl (cI, 2, .inl f14)), ((r 17), .inl (cI, 20, .inl f17)), ((r 31), .inl (cI, 2, .inl f31)), ((r 49), .inl (cI, 22, .inl (upd f49 x1.toNatClampNeg y_13))), ((r 50), .inl (cI, 22, .inl (upd f50 x1.toNatClampNeg j58_S0))), ((r 51), .inl (cI, 22, .inl (upd f51 x1.toNatClampNeg 0))), ((r 52), .inl (cI, 22, .inl f52))]) hx hb hK hP hD hS 6 0 rfl rfl (iR_vp hx1 (by decide +kernel)) rfl rfl dX7_dayEnds_65 (fun H locs hP hD hS => ?_)
    refine lv_aload_n hx hb dX7_dayEnds_66 rfl (lv_at hl 0 rfl) ?_
    refine k_get (D := (dC, dI)) (ci := 7) (v := .ref (r 52)) (C := RX7) (T := TX7) (N := 92) hx hb hts hinX7 hown hK hP 0 rfl rfl 52 (by decide) w_5 rfl rfl dX7_dayEnds_67 ?_
    refine lv_iload_n hx hb dX7_dayEnds_70 rfl (lv_at hl 1 rfl) ?_
    refine lv_dup2_11 hx hb dX7_dayEnds_71 rfl rfl ?_
    refine va_iald hx hb hK hP 7 0 rfl rfl (iR_vp hx1 (by decide +kernel)) dX7_dayEnds_72 ?_
    refine lv_iconst (v := 1) hx hb dX7_dayEnds_73 (by decide +kernel) ?_
    refine lv_iadd hx hb dX7_dayEnds_74 ?_
    refine lv_topi (fun y_74 ey_74 => ?_)
    refine s_iast (g := (upd f52 x1.toNatClampNeg y_74)) (ws' := [(h, .inr (7, oM r i j)), ((r 14), .inl (cI, 2, .inl f14)), ((r 17), .inl (cI, 20, .inl f17)), ((r 31), .inl (cI, 2, .inl f31)), ((r 49), .inl (cI, 22, .inl (upd f49 x1.toNatClampNeg y_13))), ((r 50), .inl (cI, 22, .inl (upd f50 x1.toNatClampNeg j58_S0))), ((r 51), .inl (cI, 22, .inl (upd f51 x1.toNatClampNeg 0))), ((r 52), .inl (cI, 22, .inl (upd f52 x1.toNatClampNeg y_74)))]) hx hb hK hP hD hS 7 0 rfl rfl (iR_vp hx1 (by decide +kernel)) rfl rfl dX7_dayEnds_75 (fun H locs hP hD hS => ?_)
    exact k_rv B hP hD hS dX7_dayEnds_76 ((fun _ => 0), (fun _ => 0), (fun k9 => match k9 with | 0 => (upd f49 x1.toNatClampNeg y_13) | 1 => (upd f50 x1.toNatClampNeg j58_S0) | 2 => (upd f52 x1.toNatClampNeg y_74) | _ => (fun _ => 0)), (fun _ => (fun _ => 0)), (fun _ => 0)) [0, 1, 2, 3, 4, 5, 6, 7] rfl rfl (Nat.le_of_ble_eq_true rfl) (Nat.le_of_ble_eq_true rfl) ⟨(show aR (upd f49 x1.toNatClampNeg y_13) 0 1023 from (aR_upd _ hf49 f_13_2)), (show aR (upd f50 x1.toNatClampNeg j58_S0) 0 999 from (aR_upd _ hf50 hj58_S0))⟩
  refine lv_icmp_ge (tgt := 42) hx hb dX7_dayEnds_35 (by decide) (fun c_35 => ?_) (fun c_35 => ?_)
  · have c_35 : (f31 (i 13).toNatClampNeg) ≤ (f50 x1.toNatClampNeg) := c_35
    refine lv_aload_n hx hb dX7_dayEnds_42 rfl (lv_at hl 0 rfl) ?_
    refine k_get (D := (dC, dI)) (ci := 7) (v := .ref (r 50)) (C := RX7) (T := TX7) (N := 92) hx hb hts hinX7 hown hK hP 5 rfl rfl 50 (by decide) w_1 rfl rfl dX7_dayEnds_43 ?_
    refine lv_iload_n hx hb dX7_dayEnds_46 rfl (lv_at hl 1 rfl) ?_
    refine va_iald hx hb hK hP 2 0 rfl rfl (iR_vp hx1 (by decide +kernel)) dX7_dayEnds_47 ?_
    refine lv_aload_n hx hb dX7_dayEnds_48 rfl (lv_at hl 0 rfl) ?_
    refine k_get (D := (dC, dI)) (ci := 7) (v := .ref (r 31)) (C := RX7) (T := TX7) (N := 92) hx hb hts hinX7 hown hK hP 5 rfl rfl 31 (by decide) w_2 rfl rfl dX7_dayEnds_49 ?_
    refine lv_aload_n hx hb dX7_dayEnds_52 rfl (lv_at hl 0 rfl) ?_
    refine k_get (D := (dC, dI)) (ci := 7) (v := .int (i 13)) (C := RX7) (T := TX7) (N := 92) hx hb hts hinX7 hown hK hP 5 rfl rfl 13 (by decide) w_3 rfl rfl dX7_dayEnds_53 ?_
    refine va_iald hx hb hK hP 0 0 rfl rfl (iR_vp f_31_4 (by decide +kernel)) dX7_dayEnds_56 ?_
    refine lv_isub hx hb dX7_dayEnds_57 ?_
    refine lv_topi (fun y_57 ey_57 => ?_)
    have f_57_6 : iR y_57 0 999 := iR_subge ey_57 c_35 f_25_3 f_34_5 (by decide +kernel)
    exact J_58 y_57 f_57_6 H locs ls (hP.sub [5, 6, 7, 0, 1, 2, 3, 4] rfl) (hD.sub [5, 6, 7, 0, 1, 2, 3, 4] (by decide +kernel) rfl) hS (lv_sub hl [0, 1] rfl)
  · have c_35 : (f50 x1.toNatClampNeg) < (f31 (i 13).toNatClampNeg) := i_nle c_35
    have f_38_6 : iR (f50 x1.toNatClampNeg) 0 998 := iR_ltL c_35 f_25_3 f_34_5 (by decide +kernel)
    have f_38_7 : iR (f31 (i 13).toNatClampNeg) 1 999 := iR_ltR c_35 f_25_3 f_34_5 (by decide +kernel)
    refine lv_iconst (v := 0) hx hb dX7_dayEnds_38 (by decide +kernel) ?_
    refine lv_goto (tgt := 58) hx hb dX7_dayEnds_39 (by decide) ?_
    exact J_58 0 (iR_c (n := 0) (a := 0) (b := 999) (by decide +kernel) (by decide +kernel)) H locs ls (hP.sub [5, 6, 7, 0, 1, 2, 3, 4] rfl) (hD.sub [5, 6, 7, 0, 1, 2, 3, 4] (by decide +kernel) rfl) hS (lv_sub hl [0, 1] rfl)
set_option maxHeartbeats 8000000 in
set_option maxRecDepth 100000 in
theorem s_X7_night_v0 (l : Launch) (dC : Nat → ClassId) (dI : Nat → Nat → Nat) (cI cJ cZ cM : ClassId) (h : Nat) (r : Nat → Nat) (i : Nat → Int32) (j : Nat → Int64) (f14 : Nat → Int32) (f17 : Nat → Int32) (f31 : Nat → Int32) (f48 : Nat → Int32) (f49 : Nat → Int32) (f50 : Nat → Int32) (f51 : Nat → Int32) (f52 : Nat → Int32) (f53 : Nat → Int32) (f54 : Nat → Int32) (f55 : Nat → Int32) (f56 : Nat → Int32) (f57 : Nat → Int32) (hI : mR i) (hf14 : aR f14 0 10) (hf17 : aR f17 0 1) (hf31 : aR f31 0 999) (hf49 : aR f49 0 1023) (hf50 : aR f50 0 999) (hf53 : aR f53 0 50) : k_Mi l yX7_night wsX7_night ({ frames := 3, cells := 0, slots := 0, locals := 83 }) (dC, dI) vwCl (tyy cI cJ cZ cM) [(h, .inr (7, oM r i j)), ((r 14), .inl (cI, 2, .inl f14)), ((r 17), .inl (cI, 20, .inl f17)), ((r 31), .inl (cI, 2, .inl f31)), ((r 48), .inl (cI, 6, .inl f48)), ((r 49), .inl (cI, 22, .inl f49)), ((r 50), .inl (cI, 22, .inl f50)), ((r 51), .inl (cI, 22, .inl f51)), ((r 52), .inl (cI, 22, .inl f52)), ((r 53), .inl (cI, 22, .inl f53)), ((r 54), .inl (cI, 1100, .inl f54)), ((r 55), .inl (cI, 1100, .inl f55)), ((r 56), .inl (cI, 1100, .inl f56)), ((r 57), .inl (cI, 1100, .inl f57))] [.ref h] 0 0 (fun (u9 : SU) => [(h, .inr (7, oM r (upd (upd i 58 (u9.1 0)) 59 (u9.1 1)) j)), ((r 14), .inl (cI, 2, .inl f14)), ((r 17), .inl (cI, 20, .inl f17)), ((r 31), .inl (cI, 2, .inl f31)), ((r 48), .inl (cI, 6, .inl (u9.2.2.1 0))), ((r 49), .inl (cI, 22, .inl (u9.2.2.1 1))), ((r 50), .inl (cI, 22, .inl (u9.2.2.1 2))), ((r 51), .inl (cI, 22, .inl (u9.2.2.1 3))), ((r 52), .inl (cI, 22, .inl (u9.2.2.1 4))), ((r 53), .inl (cI, 22, .inl (u9.2.2.1 5))), ((r 54), .inl (cI, 1100, .inl (u9.2.2.1 6))), ((r 55), .inl (cI, 1100, .inl (u9.2.2.1 7))), ((r 56), .inl (cI, 1100, .inl (u9.2.2.1 8))), ((r 57), .inl (cI, 1100, .inl (u9.2.2.1 9)))]) (fun (r9 : Int32) (u9 : SU) => (iR (u9.1 0) 0 19) ∧ (iR (u9.1 1) 0 20) ∧ (aR (u9.2.2.1 1) 0 1023) ∧ (aR (u9.2.2.1 2) 0 999) ∧ (aR (u9.2.2.1 5) 0 50)) := by
  refine fun sz => k_enter (cc := cX7_night) (maxL := 1) (ret := some (.int)) (Qc := fun A => va_Qi (fun (r9 : Int32) (u9 : SU) => (iR (u9.1 0) 0 19) ∧ (iR (u9.1 1) 0 20) ∧ (aR (u9.2.2.1 1) 0 1023) ∧ (aR (u9.2.2.1 2) 0 999) ∧ (aR (u9.2.2.1 5) 0 50)) (fun u => k_B (dC, dI) vwCl (tyy cI cJ cZ cM) A ((fun (u9 : SU) => [(h, .inr (7, oM r (upd (upd i 58 (u9.1 0)) 59 (u9.1 1)) j)), ((r 14), .inl (cI, 2, .inl f14)), ((r 17), .inl (cI, 20, .inl f17)), ((r 31), .inl (cI, 2, .inl f31)), ((r 48), .inl (cI, 6, .inl (u9.2.2.1 0))), ((r 49), .inl (cI, 22, .inl (u9.2.2.1 1))), ((r 50), .inl (cI, 22, .inl (u9.2.2.1 2))), ((r 51), .inl (cI, 22, .inl (u9.2.2.1 3))), ((r 52), .inl (cI, 22, .inl (u9.2.2.1 4))), ((r 53), .inl (cI, 22, .inl (u9.2.2.1 5))), ((r 54), .inl (cI, 1100, .inl (u9.2.2.1 6))), ((r 55), .inl (cI, 1100, .inl (u9.2.2.1 7))), ((r 56), .inl (cI, 1100, .inl (u9.2.2.1 8))), ((r 57), .inl (cI, 1100, .inl (u9.2.2.1 9)))]) u)) A) sz (by decide +kernel) rfl (Nat.le_of_ble_eq_true rfl) (fun p e s m args below meth c A ls H locs B hP hD hS hl => ?_)
  obtain ⟨hx, hb, hml, hown, hts, hr, hlk, hnm, hK, hA, hN, hC⟩ := id B
  have hown : s.vm.findClass RX7 = some m.cls := hown
  have hl : lv_has ls 1 [(0, .ref h)] := hl
  have w_0 : (Cond.fieldLink RX7 171 "WishSeaModel" "dayOf" "[I").before args s = true := hts _ (List.mem_of_getElem? (i := 1) rfl)
  have hinX7 : ∀ w ∈ u_ws RX7 TX7 92, w ∈ wsX7_night := fun _ h => List.mem_cons_of_mem _ (List.mem_append_right _ h)
  refine lv_aload_n hx hb dX7_night_0 rfl (lv_at hl 0 rfl) ?_
  refine k_get (D := (dC, dI)) (ci := 7) (v := .ref (r 52)) (C := RX7) (T := TX7) (N := 92) hx hb hts hinX7 hown hK hP 0 rfl rfl 52 (by decide) w_0 rfl rfl dX7_night_1 ?_
  refine lv_iconst (v := 0) hx hb dX7_night_4 (by decide +kernel) ?_
  refine k_iald (v := (f52 0)) hx hb hK hP 8 0 0 rfl rfl rfl (Nat.le_of_ble_eq_true rfl) (Nat.le_of_ble_eq_true rfl) rfl dX7_night_5 ?_
  refine lv_sipush (v := 9999) hx hb dX7_night_6 (by decide +kernel) ?_
  refine lv_icmp_ne (tgt := 18) hx hb dX7_night_9 (by decide) (fun c_9 => ?_) (fun c_9 => ?_)
  · have c_9 : ¬ (f52 0) = 9999 := c_9
    refine lv_aload_n hx hb dX7_night_18 rfl (lv_at hl 0 rfl) ?_
    refine k_cv (wc := [(h, .inr (7, oM r i j)), ((r 49), .inl (cI, 22, .inl f49)), ((r 50), .inl (cI, 22, .inl f50)), ((r 51), .inl (cI, 22, .inl f51)), ((r 52), .inl (cI, 22, .inl f52)), ((r 53), .inl (cI, 22, .inl f53)), ((r 54), .inl (cI, 1100, .inl f54)), ((r 55), .inl (cI, 1100, .inl f55)), ((r 56), .inl (cI, 1100, .inl f56)), ((r 57), .inl (cI, 1100, .inl f57))]) (wr := [((r 14), .inl (cI, 2, .inl f14)), ((r 17), .inl (cI, 20, .inl f17)), ((r 31), .inl (cI, 2, .inl f31)), ((r 48), .inl (cI, 6, .inl f48))]) (fun hPc hDc hFc => va_runV (As := []) (rest := []) ⟨hx, hb, hml, hown, hts⟩ (s_X7_keeps_v0 l dC dI cI cJ cZ cM h r i j f49 f50 f51 f52 f53 f54 f55 f56 f57 hI hf49 hf50 hf53 H.size) (cwV 0 hts gX7_night_X7_keeps rfl rfl rfl (by decide +kernel) ⟨(Nat.le_of_ble_eq_true rfl), (Nat.le_of_ble_eq_true rfl)⟩) (k_pV hPc hDc hK hN hC hS hFc hP (q0 := 0) (ci := 7) rfl rfl) rfl rfl hl.1 rfl (lv_room (Nat.le_of_ble_eq_true rfl)) dX7_night_19 ⟨(Nat.le_of_ble_eq_true rfl), (Nat.le_of_ble_eq_true rfl)⟩) hP hD hS hA [0, 5, 6, 7, 8, 9, 10, 11, 12, 13] [1, 2, 3, 4] rfl rfl rfl rfl (by decide) (fun _ => rfl) 0 0 rfl rfl (fun u_19 H locs hw hP hD hS => ?_)
    obtain ⟨g_19_0, g_19_1, g_19_2, g_19_3, g_19_4⟩ := hw
    have hP : va_P (dC, dI) vwCl [((r 14), .inl (cI, 2, .inl f14)), ((r 17), .inl (cI, 20, .inl f17)), ((r 31), .inl (cI, 2, .inl f31)), ((r 48), .inl (cI, 6, .inl f48)), (h, .inr (7, oM r (upd (upd i 58 (u_19.1 0)) 59 (u_19.1 1)) j)), ((r 49), .inl (cI, 22, .inl (u_19.2.2.1 0))), ((r 50), .inl (cI, 22, .inl (u_19.2.2.1 1))), ((r 51), .inl (cI, 22, .inl (u_19.2.2.1 2))), ((r 52), .inl (cI, 22, .inl (u_19.2.2.1 3))), ((r 53), .inl (cI, 22, .inl (u_19.2.2.1 4))), ((r 54), .inl (cI, 1100, .inl (u_19.2.2.1 5))), ((r 55), .inl (cI, 1100, .inl (u_19.2.2.1 6))), ((r 56), .inl (cI, 1100, .inl (u_19.2.2.1 7))), ((r 57), .inl (cI, 1100, .inl (u_19.2.2.1 8)))] H := hP
    have hD : va_D A [((r 14), .inl (cI, 2, .inl f14)), ((r 17), .inl (cI, 20, .inl f17)), ((r 31), .inl (cI, 2, .inl f31)), ((r 48), .inl (cI, 6, .inl f48)), (h, .inr (7, oM r (upd (upd i 58 (u_19.1 0)) 59 (u_19.1 1)) j)), ((r 49), .inl (cI, 22, .inl (u_19.2.2.1 0))), ((r 50), .inl (cI, 22, .inl (u_19.2.2.1 1))), ((r 51), .inl (cI, 22, .inl (u_19.2.2.1 2))), ((r 52), .inl (cI, 22, .inl (u_19.2.2.1 3))), ((r 53), .inl (cI, 22, .inl (u_19.2.2.1 4))), ((r 54), .inl (cI, 1100, .inl (u_19.2.2.1 5))), ((r 55), .inl (cI, 1100, .inl (u_19.2.2.1 6))), ((r 56), .inl (cI, 1100, .inl (u_19.2.2.1 7))), ((r 57), .inl (cI, 1100, .inl (u_19.2.2.1 8)))] := hD
    refine lv_aload_n hx hb dX7_night_22 rfl (lv_at hl 0 rfl) ?_
    refine lv_iconst (v := 0) hx hb dX7_night_23 (by decide +kernel) ?_
    refine k_cv (wc := [(h, .inr (7, oM r (upd (upd i 58 (u_19.1 0)) 59 (u_19.1 1)) j)), ((r 14), .inl (cI, 2, .inl f14)), ((r 17), .inl (cI, 20, .inl f17)), ((r 31), .inl (cI, 2, .inl f31)), ((r 49), .inl (cI, 22, .inl (u_19.2.2.1 0))), ((r 50), .inl (cI, 22, .inl (u_19.2.2.1 1))), ((r 51), .inl (cI, 22, .inl (u_19.2.2.1 2))), ((r 52), .inl (cI, 22, .inl (u_19.2.2.1 3)))]) (wr := [((r 48), .inl (cI, 6, .inl f48)), ((r 53), .inl (cI, 22, .inl (u_19.2.2.1 4))), ((r 54), .inl (cI, 1100, .inl (u_19.2.2.1 5))), ((r 55), .inl (cI, 1100, .inl (u_19.2.2.1 6))), ((r 56), .inl (cI, 1100, .inl (u_19.2.2.1 7))), ((r 57), .inl (cI, 1100, .inl (u_19.2.2.1 8)))]) (fun hPc hDc hFc => va_runV (As := [.int 0]) (rest := []) ⟨hx, hb, hml, hown, hts⟩ (s_X7_dayEnds_v0 l dC dI cI cJ cZ cM h r (upd (upd i 58 (u_19.1 0)) 59 (u_19.1 1)) j 0 f14 f17 f31 (u_19.2.2.1 0) (u_19.2.2.1 1) (u_19.2.2.1 2) (u_19.2.2.1 3) (iR_c (n := 0) (a := 0) (b := 21) (by decide +kernel) (by decide +kernel)) (mR_upd 59 (mR_upd 58 hI (show iR _ (loI 58) (hiI 58) from g_19_0)) (show iR _ (loI 59) (hiI 59) from (iR_w g_19_1 (by decide +kernel)))) hf14 hf17 hf31 g_19_2 g_19_3 H.size) (cwV 1 hts gX7_night_X7_dayEnds rfl rfl rfl (by decide +kernel) ⟨(Nat.le_of_ble_eq_true rfl), (Nat.le_of_ble_eq_true rfl)⟩) (k_pV hPc hDc hK hN hC hS hFc hP (q0 := 4) (ci := 7) rfl rfl) rfl rfl hl.1 rfl (lv_room (Nat.le_of_ble_eq_true rfl)) dX7_night_24 ⟨(Nat.le_of_ble_eq_true rfl), (Nat.le_of_ble_eq_true rfl)⟩) hP hD hS hA [4, 0, 1, 2, 5, 6, 7, 8] [3, 9, 10, 11, 12, 13] rfl rfl rfl rfl (by decide) (fun _ => rfl) 0 0 rfl rfl (fun u_24 H locs hw hP hD hS => ?_)
    obtain ⟨g_24_0, g_24_1⟩ := hw
    have hP : va_P (dC, dI) vwCl [((r 48), .inl (cI, 6, .inl f48)), ((r 53), .inl (cI, 22, .inl (u_19.2.2.1 4))), ((r 54), .inl (cI, 1100, .inl (u_19.2.2.1 5))), ((r 55), .inl (cI, 1100, .inl (u_19.2.2.1 6))), ((r 56), .inl (cI, 1100, .inl (u_19.2.2.1 7))), ((r 57), .inl (cI, 1100, .inl (u_19.2.2.1 8))), (h, .inr (7, oM r (upd (upd i 58 (u_19.1 0)) 59 (u_19.1 1)) j)), ((r 14), .inl (cI, 2, .inl f14)), ((r 17), .inl (cI, 20, .inl f17)), ((r 31), .inl (cI, 2, .inl f31)), ((r 49), .inl (cI, 22, .inl (u_24.2.2.1 0))), ((r 50), .inl (cI, 22, .inl (u_24.2.2.1 1))), ((r 51), .inl (cI, 22, .inl (upd (u_19.2.2.1 2) 0 0))), ((r 52), .inl (cI, 22, .inl (u_24.2.2.1 2)))] H := hP
    have hD : va_D A [((r 48), .inl (cI, 6, .inl f48)), ((r 53), .inl (cI, 22, .inl (u_19.2.2.1 4))), ((r 54), .inl (cI, 1100, .inl (u_19.2.2.1 5))), ((r 55), .inl (cI, 1100, .inl (u_19.2.2.1 6))), ((r 56), .inl (cI, 1100, .inl (u_19.2.2.1 7))), ((r 57), .inl (cI, 1100, .inl (u_19.2.2.1 8))), (h, .inr (7, oM r (upd (upd i 58 (u_19.1 0)) 59 (u_19.1 1)) j)), ((r 14), .inl (cI, 2, .inl f14)), ((r 17), .inl (cI, 20, .inl f17)), ((r 31), .inl (cI, 2, .inl f31)), ((r 49), .inl (cI, 22, .inl (u_24.2.2.1 0))), ((r 50), .inl (cI, 22, .inl (u_24.2.2.1 1))), ((r 51), .inl (cI, 22, .inl (upd (u_19.2.2.1 2) 0 0))), ((r 52), .inl (cI, 22, .inl (u_24.2.2.1 2)))] := hD
    refine lv_aload_n hx hb dX7_night_27 rfl (lv_at hl 0 rfl) ?_
    refine k_get (D := (dC, dI)) (ci := 7) (v := .ref (r 52)) (C := RX7) (T := TX7) (N := 92) hx hb hts hinX7 hown hK hP 6 rfl rfl 52 (by decide) w_0 rfl rfl dX7_night_28 ?_
    refine lv_iconst (v := 0) hx hb dX7_night_31 (by decide +kernel) ?_
    refine k_iald (v := ((u_24.2.2.1 2) 0)) hx hb hK hP 13 0 0 rfl rfl rfl (Nat.le_of_ble_eq_true rfl) (Nat.le_of_ble_eq_true rfl) rfl dX7_night_32 ?_
    exact k_ri B hP hD hS dX7_night_33 ((fun k9 => match k9 with | 0 => (u_19.1 0) | 1 => (u_19.1 1) | _ => 0), (fun _ => 0), (fun k9 => match k9 with | 0 => f48 | 1 => (u_24.2.2.1 0) | 2 => (u_24.2.2.1 1) | 3 => (upd (u_19.2.2.1 2) 0 0) | 4 => (u_24.2.2.1 2) | 5 => (u_19.2.2.1 4) | 6 => (u_19.2.2.1 5) | 7 => (u_19.2.2.1 6) | 8 => (u_19.2.2.1 7) | 9 => (u_19.2.2.1 8) | _ => (fun _ => 0)), (fun _ => (fun _ => 0)), (fun _ => 0)) [6, 7, 8, 9, 0, 10, 11, 12, 13, 1, 2, 3, 4, 5] rfl rfl rfl (Nat.le_of_ble_eq_true rfl) (Nat.le_of_ble_eq_true rfl) ⟨(show iR (u_19.1 0) 0 19 from g_19_0), (show iR (u_19.1 1) 0 20 from (iR_w g_19_1 (by decide +kernel))), (show aR (u_24.2.2.1 0) 0 1023 from g_24_0), (show aR (u_24.2.2.1 1) 0 999 from g_24_1), (show aR (u_19.2.2.1 4) 0 50 from g_19_4)⟩
  · have c_9 : (f52 0) = 9999 := c_9
    have f_12_1 : iR (f52 0) 9999 9999 := iR_eqL c_9 (iR_top _) (iR_c (n := 9999) (a := 9999) (b := 9999) (by decide +kernel) (by decide +kernel)) (by decide +kernel)
    refine lv_aload_n hx hb dX7_night_12 rfl (lv_at hl 0 rfl) ?_
    refine lv_iconst (v := 3) hx hb dX7_night_13 (by decide +kernel) ?_
    refine k_ci (wc := [(h, .inr (7, oM r i j)), ((r 48), .inl (cI, 6, .inl f48))]) (wr := [((r 14), .inl (cI, 2, .inl f14)), ((r 17), .inl (cI, 20, .inl f17)), ((r 31), .inl (cI, 2, .inl f31)), ((r 49), .inl (cI, 22, .inl f49)), ((r 50), .inl (cI, 22, .inl f50)), ((r 51), .inl (cI, 22, .inl f51)), ((r 52), .inl (cI, 22, .inl f52)), ((r 53), .inl (cI, 22, .inl f53)), ((r 54), .inl (cI, 1100, .inl f54)), ((r 55), .inl (cI, 1100, .inl f55)), ((r 56), .inl (cI, 1100, .inl f56)), ((r 57), .inl (cI, 1100, .inl f57))]) (fun hPc hDc hFc => va_runV (As := [.int 3]) (rest := []) ⟨hx, hb, hml, hown, hts⟩ (s_X7_refuses_v0 l dC dI cI cJ cZ cM h r i j 3 f48 (iR_c (n := 3) (a := 0) (b := 5) (by decide +kernel) (by decide +kernel)) hI H.size) (cwV 1 hts gX7_night_X7_refuses rfl rfl rfl (by decide +kernel) ⟨(Nat.le_of_ble_eq_true rfl), (Nat.le_of_ble_eq_true rfl)⟩) (k_pV hPc hDc hK hN hC hS hFc hP (q0 := 0) (ci := 7) rfl rfl) rfl rfl hl.1 rfl (lv_room (Nat.le_of_ble_eq_true rfl)) dX7_night_14 ⟨(Nat.le_of_ble_eq_true rfl), (Nat.le_of_ble_eq_true rfl)⟩) hP hD hS hA [0, 4] [1, 2, 3, 5, 6, 7, 8, 9, 10, 11, 12, 13] rfl rfl rfl rfl (by decide) (fun _ => rfl) 0 0 rfl rfl (fun r_14 u_14 H locs hw hP hD hS => ?_)
    have g_14_0 := hw
    obtain rfl : r_14 = (-1) := g_14_0
    have hP : va_P (dC, dI) vwCl [((r 14), .inl (cI, 2, .inl f14)), ((r 17), .inl (cI, 20, .inl f17)), ((r 31), .inl (cI, 2, .inl f31)), ((r 49), .inl (cI, 22, .inl f49)), ((r 50), .inl (cI, 22, .inl f50)), ((r 51), .inl (cI, 22, .inl f51)), ((r 52), .inl (cI, 22, .inl f52)), ((r 53), .inl (cI, 22, .inl f53)), ((r 54), .inl (cI, 1100, .inl f54)), ((r 55), .inl (cI, 1100, .inl f55)), ((r 56), .inl (cI, 1100, .inl f56)), ((r 57), .inl (cI, 1100, .inl f57)), (h, .inr (7, oM r i j)), ((r 48), .inl (cI, 6, .inl (u_14.2.2.1 0)))] H := hP
    have hD : va_D A [((r 14), .inl (cI, 2, .inl f14)), ((r 17), .inl (cI, 20, .inl f17)), ((r 31), .inl (cI, 2, .inl f31)), ((r 49), .inl (cI, 22, .inl f49)), ((r 50), .inl (cI, 22, .inl f50)), ((r 51), .inl (cI, 22, .inl f51)), ((r 52), .inl (cI, 22, .inl f52)), ((r 53), .inl (cI, 22, .inl f53)), ((r 54), .inl (cI, 1100, .inl f54)), ((r 55), .inl (cI, 1100, .inl f55)), ((r 56), .inl (cI, 1100, .inl f56)), ((r 57), .inl (cI, 1100, .inl f57)), (h, .inr (7, oM r i j)), ((r 48), .inl (cI, 6, .inl (u_14.2.2.1 0)))] := hD
    exact k_ri B hP hD hS dX7_night_17 ((fun k9 => match k9 with | 0 => (i 58) | 1 => (i 59) | _ => 0), (fun _ => 0), (fun k9 => match k9 with | 0 => (u_14.2.2.1 0) | 1 => f49 | 2 => f50 | 3 => f51 | 4 => f52 | 5 => f53 | 6 => f54 | 7 => f55 | 8 => f56 | 9 => f57 | _ => (fun _ => 0)), (fun _ => (fun _ => 0)), (fun _ => 0)) [12, 0, 1, 2, 13, 3, 4, 5, 6, 7, 8, 9, 10, 11] rfl rfl rfl (Nat.le_of_ble_eq_true rfl) (Nat.le_of_ble_eq_true rfl) ⟨(show iR (i 58) 0 19 from (hI 58)), (show iR (i 59) 0 20 from (hI 59)), (show aR f49 0 1023 from hf49), (show aR f50 0 999 from hf50), (show aR f53 0 50 from hf53)⟩
set_option maxHeartbeats 8000000 in
set_option maxRecDepth 100000 in
theorem s_X7_draw_v0 (l : Launch) (dC : Nat → ClassId) (dI : Nat → Nat → Nat) (cI cJ cZ cM : ClassId) (h : Nat) (r : Nat → Nat) (i : Nat → Int32) (j : Nat → Int64) (x1 : Int32) (hx1 : iR x1 1 12) (hI : mR i) (hJ60 : lR (j 60) 0 2147483647) : k_Mi l yX7_draw wsX7_draw ({ frames := 1, cells := 0, slots := 0, locals := 40 }) (dC, dI) vwCl (tyy cI cJ cZ cM) [(h, .inr (7, oM r i j))] [.ref h, .int x1] 0 0 (fun (u9 : SU) => [(h, .inr (7, oM r i (vp_updL j 60 (u9.2.1 0))))]) (fun (r9 : Int32) (u9 : SU) => (iR r9 0 11) ∧ (lR (u9.2.1 0) 0 2147483647)) := by
  refine fun sz => k_enter (cc := cX7_draw) (maxL := 2) (ret := some (.int)) (Qc := fun A => va_Qi (fun (r9 : Int32) (u9 : SU) => (iR r9 0 11) ∧ (lR (u9.2.1 0) 0 2147483647)) (fun u => k_B (dC, dI) vwCl (tyy cI cJ cZ cM) A ((fun (u9 : SU) => [(h, .inr (7, oM r i (vp_updL j 60 (u9.2.1 0))))]) u)) A) sz (by decide +kernel) rfl (Nat.le_of_ble_eq_true rfl) (fun p e s m args below meth c A ls H locs B hP hD hS hl => ?_)
  obtain ⟨hx, hb, hml, hown, hts, hr, hlk, hnm, hK, hA, hN, hC⟩ := id B
  have hown : s.vm.findClass RX7 = some m.cls := hown
  have hl : lv_has ls 2 [(0, .ref h), (1, .int x1)] := hl
  have w_0 : (Cond.constantLong RX7 578 (1103515245)).before args s = true := hts _ (List.mem_of_getElem? (i := 1) rfl)
  have w_1 : (Cond.fieldLink RX7 195 "WishSeaModel" "seeds" "J").before args s = true := hts _ (List.mem_of_getElem? (i := 2) rfl)
  have w_2 : (Cond.constantLong RX7 580 (12345)).before args s = true := hts _ (List.mem_of_getElem? (i := 3) rfl)
  have w_3 : (Cond.constantLong RX7 582 (2147483648)).before args s = true := hts _ (List.mem_of_getElem? (i := 4) rfl)
  have w_4 : (Cond.constantLong RX7 584 (64)).before args s = true := hts _ (List.mem_of_getElem? (i := 5) rfl)
  have hinX7 : ∀ w ∈ u_ws RX7 TX7 92, w ∈ wsX7_draw := fun _ h => List.mem_cons_of_mem _ (List.mem_append_right _ h)
  refine lv_aload_n hx hb dX7_draw_0 rfl (lv_at hl 0 rfl) ?_
  refine lv_ldc2 (v := 1103515245) hx hb hown w_0 dX7_draw_1 ?_
  refine lv_aload_n hx hb dX7_draw_4 rfl (lv_at hl 0 rfl) ?_
  refine k_get (D := (dC, dI)) (ci := 7) (v := .long (j 60)) (C := RX7) (T := TX7) (N := 92) hx hb hts hinX7 hown hK hP 0 rfl rfl 60 (by decide) w_1 rfl rfl dX7_draw_5 ?_
  refine lv_lmul hx hb dX7_draw_8 ?_
  refine lv_topl (fun y_8 ey_8 => ?_)
  have f_8_1 : lR y_8 0 2369780942852698515 := lR_mul ey_8 (lR_c (n := 1103515245) (a := 1103515245) (b := 1103515245) (by decide +kernel) (by decide +kernel)) hJ60 (by decide +kernel)
  refine lv_ldc2 (v := 12345) hx hb hown w_2 dX7_draw_9 ?_
  refine lv_ladd hx hb dX7_draw_12 ?_
  refine lv_topl (fun y_12 ey_12 => ?_)
  have f_12_2 : lR y_12 12345 2369780942852710860 := lR_add ey_12 f_8_1 (lR_c (n := 12345) (a := 12345) (b := 12345) (by decide +kernel) (by decide +kernel)) (by decide +kernel)
  refine lv_ldc2 (v := 2147483648) hx hb hown w_3 dX7_draw_13 ?_
  refine lv_lrem hx hb dX7_draw_16 (by decide +kernel) ?_
  refine lv_topl (fun y_16 ey_16 => ?_)
  have f_16_3 : lR y_16 0 2147483647 := lR_rem ey_16 f_12_2 (lR_c (n := 2147483648) (a := 2147483648) (b := 2147483648) (by decide +kernel) (by decide +kernel)) (by decide +kernel)
  refine k_put (D := (dC, dI)) (ci := 7) (v := .long y_16) (C := RX7) (T := TX7) (N := 92) (ws' := [(h, .inr (7, oM r i (vp_updL j 60 y_16)))]) hx hb hts hinX7 tyX7 tyX7_ok nmX7 hown hK hP hD hS 0 rfl rfl 60 (by decide) w_1 rfl rfl rfl rfl (Nat.le_of_ble_eq_true rfl) rfl dX7_draw_17 (fun H locs hP hD hS => ?_)
  refine lv_aload_n hx hb dX7_draw_20 rfl (lv_at hl 0 rfl) ?_
  refine k_get (D := (dC, dI)) (ci := 7) (v := .long y_16) (C := RX7) (T := TX7) (N := 92) hx hb hts hinX7 hown hK hP 0 rfl rfl 60 (by decide) w_1 rfl rfl dX7_draw_21 ?_
  refine lv_ldc2 (v := 64) hx hb hown w_4 dX7_draw_24 ?_
  refine lv_ldiv hx hb dX7_draw_27 (by decide +kernel) ?_
  refine lv_topl (fun y_27 ey_27 => ?_)
  have f_27_4 : lR y_27 0 33554431 := lR_div ey_27 f_16_3 (lR_c (n := 64) (a := 64) (b := 64) (by decide +kernel) (by decide +kernel)) (by decide +kernel)
  refine lv_iload_n hx hb dX7_draw_28 rfl (lv_at hl 1 rfl) ?_
  refine lv_i2l (v := x1.toInt64) hx hb dX7_draw_29 rfl ?_
  refine lv_topl (fun y_29 ey_29 => ?_)
  have f_29_5 : lR y_29 1 12 := lR_i2l ey_29 hx1
  refine lv_lrem hx hb dX7_draw_30 (l_nz f_29_5 (by decide +kernel)) ?_
  refine lv_topl (fun y_30 ey_30 => ?_)
  have f_30_6 : lR y_30 0 11 := lR_rem ey_30 f_27_4 f_29_5 (by decide +kernel)
  refine lv_l2i (v := y_30.toInt32) hx hb dX7_draw_31 rfl ?_
  refine lv_topi (fun y_31 ey_31 => ?_)
  have f_31_7 : iR y_31 0 11 := iR_l2i ey_31 f_30_6 (by decide +kernel)
  exact k_ri B hP hD hS dX7_draw_32 ((fun _ => 0), (fun k9 => match k9 with | 0 => y_16 | _ => 0), (fun _ => (fun _ => 0)), (fun _ => (fun _ => 0)), (fun _ => 0)) [0] rfl rfl rfl (Nat.le_of_ble_eq_true rfl) (Nat.le_of_ble_eq_true rfl) ⟨(show iR y_31 0 11 from f_31_7), (show lR y_16 0 2147483647 from f_16_3)⟩
set_option maxHeartbeats 8000000 in
set_option maxRecDepth 100000 in
theorem s_X7_undo_v0 (l : Launch) (dC : Nat → ClassId) (dI : Nat → Nat → Nat) (cI cJ cZ cM : ClassId) (h : Nat) (r : Nat → Nat) (i : Nat → Int32) (j : Nat → Int64) (f48 : Nat → Int32) (f49 : Nat → Int32) (f50 : Nat → Int32) (f51 : Nat → Int32) (f52 : Nat → Int32) (f53 : Nat → Int32) (f54 : Nat → Int32) (f55 : Nat → Int32) (f56 : Nat → Int32) (f57 : Nat → Int32) (hI : mR i) (hf49 : aR f49 0 1023) (hf50 : aR f50 0 999) (hf53 : aR f53 0 50) : k_Mi l yX7_undo wsX7_undo ({ frames := 2, cells := 0, slots := 0, locals := 63 }) (dC, dI) vwCl (tyy cI cJ cZ cM) [(h, .inr (7, oM r i j)), ((r 48), .inl (cI, 6, .inl f48)), ((r 49), .inl (cI, 22, .inl f49)), ((r 50), .inl (cI, 22, .inl f50)), ((r 51), .inl (cI, 22, .inl f51)), ((r 52), .inl (cI, 22, .inl f52)), ((r 53), .inl (cI, 22, .inl f53)), ((r 54), .inl (cI, 1100, .inl f54)), ((r 55), .inl (cI, 1100, .inl f55)), ((r 56), .inl (cI, 1100, .inl f56)), ((r 57), .inl (cI, 1100, .inl f57))] [.ref h] 0 0 (fun (u9 : SU) => [(h, .inr (7, oM r (upd i 59 (u9.1 0)) j)), ((r 48), .inl (cI, 6, .inl (u9.2.2.1 0))), ((r 49), .inl (cI, 22, .inl (u9.2.2.1 1))), ((r 50), .inl (cI, 22, .inl (u9.2.2.1 2))), ((r 51), .inl (cI, 22, .inl (u9.2.2.1 3))), ((r 52), .inl (cI, 22, .inl (u9.2.2.1 4))), ((r 53), .inl (cI, 22, .inl (u9.2.2.1 5))), ((r 54), .inl (cI, 1100, .inl (u9.2.2.1 6))), ((r 55), .inl (cI, 1100, .inl (u9.2.2.1 7))), ((r 56), .inl (cI, 1100, .inl (u9.2.2.1 8))), ((r 57), .inl (cI, 1100, .inl (u9.2.2.1 9)))]) (fun (r9 : Int32) (u9 : SU) => (iR r9 0 1) ∧ (iR (u9.1 0) 0 19) ∧ (aR (u9.2.2.1 1) 0 1023) ∧ (aR (u9.2.2.1 2) 0 999) ∧ (aR (u9.2.2.1 5) 0 50)) := by
  refine fun sz => k_enter (cc := cX7_undo) (maxL := 1) (ret := some (.boolean)) (Qc := fun A => va_Qi (fun (r9 : Int32) (u9 : SU) => (iR r9 0 1) ∧ (iR (u9.1 0) 0 19) ∧ (aR (u9.2.2.1 1) 0 1023) ∧ (aR (u9.2.2.1 2) 0 999) ∧ (aR (u9.2.2.1 5) 0 50)) (fun u => k_B (dC, dI) vwCl (tyy cI cJ cZ cM) A ((fun (u9 : SU) => [(h, .inr (7, oM r (upd i 59 (u9.1 0)) j)), ((r 48), .inl (cI, 6, .inl (u9.2.2.1 0))), ((r 49), .inl (cI, 22, .inl (u9.2.2.1 1))), ((r 50), .inl (cI, 22, .inl (u9.2.2.1 2))), ((r 51), .inl (cI, 22, .inl (u9.2.2.1 3))), ((r 52), .inl (cI, 22, .inl (u9.2.2.1 4))), ((r 53), .inl (cI, 22, .inl (u9.2.2.1 5))), ((r 54), .inl (cI, 1100, .inl (u9.2.2.1 6))), ((r 55), .inl (cI, 1100, .inl (u9.2.2.1 7))), ((r 56), .inl (cI, 1100, .inl (u9.2.2.1 8))), ((r 57), .inl (cI, 1100, .inl (u9.2.2.1 9)))]) u)) A) sz (by decide +kernel) rfl (Nat.le_of_ble_eq_true rfl) (fun p e s m args below meth c A ls H locs B hP hD hS hl => ?_)
  obtain ⟨hx, hb, hml, hown, hts, hr, hlk, hnm, hK, hA, hN, hC⟩ := id B
  have hown : s.vm.findClass RX7 = some m.cls := hown
  have hl : lv_has ls 1 [(0, .ref h)] := hl
  have w_0 : (Cond.fieldLink RX7 192 "WishSeaModel" "undos" "I").before args s = true := hts _ (List.mem_of_getElem? (i := 1) rfl)
  have hinX7 : ∀ w ∈ u_ws RX7 TX7 92, w ∈ wsX7_undo := fun _ h => List.mem_cons_of_mem _ (List.mem_append_right _ h)
  refine lv_aload_n hx hb dX7_undo_0 rfl (lv_at hl 0 rfl) ?_
  have f_1_1 : iR (i 59) 0 20 := hI 59
  refine k_get (D := (dC, dI)) (ci := 7) (v := .int (i 59)) (C := RX7) (T := TX7) (N := 92) hx hb hts hinX7 hown hK hP 0 rfl rfl 59 (by decide) w_0 rfl rfl dX7_undo_1 ?_
  refine lv_if_ne (tgt := 21) hx hb dX7_undo_4 (by decide) (fun c_4 => ?_) (fun c_4 => ?_)
  · have c_4 : ¬ (i 59) = 0 := c_4
    have f_21_2 : iR (i 59) 1 20 := iR_neL c_4 f_1_1 (iR_c (n := 0) (a := 0) (b := 0) (by decide +kernel) (by decide +kernel)) (by decide +kernel)
    refine lv_aload_n hx hb dX7_undo_21 rfl (lv_at hl 0 rfl) ?_
    refine lv_dup hx hb dX7_undo_22 rfl ?_
    refine k_get (D := (dC, dI)) (ci := 7) (v := .int (i 59)) (C := RX7) (T := TX7) (N := 92) hx hb hts hinX7 hown hK hP 0 rfl rfl 59 (by decide) w_0 rfl rfl dX7_undo_23 ?_
    refine lv_iconst (v := 1) hx hb dX7_undo_26 (by decide +kernel) ?_
    refine lv_isub hx hb dX7_undo_27 ?_
    refine lv_topi (fun y_27 ey_27 => ?_)
    have f_27_3 : iR y_27 0 19 := iR_sub ey_27 f_21_2 (iR_c (n := 1) (a := 1) (b := 1) (by decide +kernel) (by decide +kernel)) (by decide +kernel)
    refine k_put (D := (dC, dI)) (ci := 7) (v := .int y_27) (C := RX7) (T := TX7) (N := 92) (ws' := [(h, .inr (7, oM r (upd i 59 y_27) j)), ((r 48), .inl (cI, 6, .inl f48)), ((r 49), .inl (cI, 22, .inl f49)), ((r 50), .inl (cI, 22, .inl f50)), ((r 51), .inl (cI, 22, .inl f51)), ((r 52), .inl (cI, 22, .inl f52)), ((r 53), .inl (cI, 22, .inl f53)), ((r 54), .inl (cI, 1100, .inl f54)), ((r 55), .inl (cI, 1100, .inl f55)), ((r 56), .inl (cI, 1100, .inl f56)), ((r 57), .inl (cI, 1100, .inl f57))]) hx hb hts hinX7 tyX7 tyX7_ok nmX7 hown hK hP hD hS 0 rfl rfl 59 (by decide) w_0 rfl rfl rfl rfl (Nat.le_of_ble_eq_true rfl) rfl dX7_undo_28 (fun H locs hP hD hS => ?_)
    refine lv_aload_n hx hb dX7_undo_31 rfl (lv_at hl 0 rfl) ?_
    refine lv_iconst (v := 0) hx hb dX7_undo_32 (by decide +kernel) ?_
    refine lv_aload_n hx hb dX7_undo_33 rfl (lv_at hl 0 rfl) ?_
    refine lv_aload_n hx hb dX7_undo_34 rfl (lv_at hl 0 rfl) ?_
    refine k_get (D := (dC, dI)) (ci := 7) (v := .int y_27) (C := RX7) (T := TX7) (N := 92) hx hb hts hinX7 hown hK hP 0 rfl rfl 59 (by decide) w_0 rfl rfl dX7_undo_35 ?_
    refine k_ci (wc := [(h, .inr (7, oM r (upd i 59 y_27) j))]) (wr := [((r 48), .inl (cI, 6, .inl f48)), ((r 49), .inl (cI, 22, .inl f49)), ((r 50), .inl (cI, 22, .inl f50)), ((r 51), .inl (cI, 22, .inl f51)), ((r 52), .inl (cI, 22, .inl f52)), ((r 53), .inl (cI, 22, .inl f53)), ((r 54), .inl (cI, 1100, .inl f54)), ((r 55), .inl (cI, 1100, .inl f55)), ((r 56), .inl (cI, 1100, .inl f56)), ((r 57), .inl (cI, 1100, .inl f57))]) (fun hPc hDc hFc => va_runV (As := [.int y_27]) (rest := [.int 0, .ref h]) ⟨hx, hb, hml, hown, hts⟩ (s_X7_ring_v0 l dC dI cI cJ cZ cM h r (upd i 59 y_27) j y_27 (iR_w f_27_3 (by decide +kernel)) (mR_upd 59 hI (show iR _ (loI 59) (hiI 59) from (iR_w f_27_3 (by decide +kernel)))) H.size) (cwV 1 hts gX7_undo_X7_ring rfl rfl rfl (by decide +kernel) ⟨(Nat.le_of_ble_eq_true rfl), (Nat.le_of_ble_eq_true rfl)⟩) (k_pV hPc hDc hK hN hC hS hFc hP (q0 := 0) (ci := 7) rfl rfl) rfl rfl hl.1 rfl (lv_room (Nat.le_of_ble_eq_true rfl)) dX7_undo_38 ⟨(Nat.le_of_ble_eq_true rfl), (Nat.le_of_ble_eq_true rfl)⟩) hP hD hS hA [0] [1, 2, 3, 4, 5, 6, 7, 8, 9, 10] rfl rfl rfl rfl (by decide) (fun _ => rfl) 0 0 rfl rfl (fun r_38 u_38 H locs hw hP hD hS => ?_)
    have g_38_0 := hw
    have hP : va_P (dC, dI) vwCl [((r 48), .inl (cI, 6, .inl f48)), ((r 49), .inl (cI, 22, .inl f49)), ((r 50), .inl (cI, 22, .inl f50)), ((r 51), .inl (cI, 22, .inl f51)), ((r 52), .inl (cI, 22, .inl f52)), ((r 53), .inl (cI, 22, .inl f53)), ((r 54), .inl (cI, 1100, .inl f54)), ((r 55), .inl (cI, 1100, .inl f55)), ((r 56), .inl (cI, 1100, .inl f56)), ((r 57), .inl (cI, 1100, .inl f57)), (h, .inr (7, oM r (upd i 59 y_27) j))] H := hP
    have hD : va_D A [((r 48), .inl (cI, 6, .inl f48)), ((r 49), .inl (cI, 22, .inl f49)), ((r 50), .inl (cI, 22, .inl f50)), ((r 51), .inl (cI, 22, .inl f51)), ((r 52), .inl (cI, 22, .inl f52)), ((r 53), .inl (cI, 22, .inl f53)), ((r 54), .inl (cI, 1100, .inl f54)), ((r 55), .inl (cI, 1100, .inl f55)), ((r 56), .inl (cI, 1100, .inl f56)), ((r 57), .inl (cI, 1100, .inl f57)), (h, .inr (7, oM r (upd i 59 y_27) j))] := hD
    refine k_cv (wc := [(h, .inr (7, oM r (upd i 59 y_27) j)), ((r 49), .inl (cI, 22, .inl f49)), ((r 50), .inl (cI, 22, .inl f50)), ((r 51), .inl (cI, 22, .inl f51)), ((r 52), .inl (cI, 22, .inl f52)), ((r 53), .inl (cI, 22, .inl f53)), ((r 54), .inl (cI, 1100, .inl f54)), ((r 55), .inl (cI, 1100, .inl f55)), ((r 56), .inl (cI, 1100, .inl f56)), ((r 57), .inl (cI, 1100, .inl f57))]) (wr := [((r 48), .inl (cI, 6, .inl f48))]) (fun hPc hDc hFc => va_runV (As := [.int 0, .int r_38]) (rest := []) ⟨hx, hb, hml, hown, hts⟩ (s_X7_copies_v0 l dC dI cI cJ cZ cM h r (upd i 59 y_27) j 0 r_38 f49 f50 f51 f52 f53 f54 f55 f56 f57 (iR_c (n := 0) (a := 0) (b := 21) (by decide +kernel) (by decide +kernel)) (iR_w g_38_0 (by decide +kernel)) (mR_upd 59 hI (show iR _ (loI 59) (hiI 59) from (iR_w f_27_3 (by decide +kernel)))) hf49 hf50 hf53 H.size) (cwV 2 hts gX7_undo_X7_copies rfl rfl rfl (by decide +kernel) ⟨(Nat.le_of_ble_eq_true rfl), (Nat.le_of_ble_eq_true rfl)⟩) (k_pV hPc hDc hK hN hC hS hFc hP (q0 := 10) (ci := 7) rfl rfl) rfl rfl hl.1 rfl (lv_room (Nat.le_of_ble_eq_true rfl)) dX7_undo_41 ⟨(Nat.le_of_ble_eq_true rfl), (Nat.le_of_ble_eq_true rfl)⟩) hP hD hS hA [10, 1, 2, 3, 4, 5, 6, 7, 8, 9] [0] rfl rfl rfl rfl (by decide) (fun _ => rfl) 0 0 rfl rfl (fun u_41 H locs hw hP hD hS => ?_)
    have hP : va_P (dC, dI) vwCl [((r 48), .inl (cI, 6, .inl f48)), (h, .inr (7, oM r (upd i 59 y_27) j)), ((r 49), .inl (cI, 22, .inl (upd f49 0 (f49 r_38.toNatClampNeg)))), ((r 50), .inl (cI, 22, .inl (upd f50 0 (f50 r_38.toNatClampNeg)))), ((r 51), .inl (cI, 22, .inl (upd f51 0 (f51 r_38.toNatClampNeg)))), ((r 52), .inl (cI, 22, .inl (upd f52 0 (f52 r_38.toNatClampNeg)))), ((r 53), .inl (cI, 22, .inl (upd f53 0 (f53 r_38.toNatClampNeg)))), ((r 54), .inl (cI, 1100, .inl (u_41.2.2.1 0))), ((r 55), .inl (cI, 1100, .inl (u_41.2.2.1 1))), ((r 56), .inl (cI, 1100, .inl (u_41.2.2.1 2))), ((r 57), .inl (cI, 1100, .inl (u_41.2.2.1 3)))] H := hP
    have hD : va_D A [((r 48), .inl (cI, 6, .inl f48)), (h, .inr (7, oM r (upd i 59 y_27) j)), ((r 49), .inl (cI, 22, .inl (upd f49 0 (f49 r_38.toNatClampNeg)))), ((r 50), .inl (cI, 22, .inl (upd f50 0 (f50 r_38.toNatClampNeg)))), ((r 51), .inl (cI, 22, .inl (upd f51 0 (f51 r_38.toNatClampNeg)))), ((r 52), .inl (cI, 22, .inl (upd f52 0 (f52 r_38.toNatClampNeg)))), ((r 53), .inl (cI, 22, .inl (upd f53 0 (f53 r_38.toNatClampNeg)))), ((r 54), .inl (cI, 1100, .inl (u_41.2.2.1 0))), ((r 55), .inl (cI, 1100, .inl (u_41.2.2.1 1))), ((r 56), .inl (cI, 1100, .inl (u_41.2.2.1 2))), ((r 57), .inl (cI, 1100, .inl (u_41.2.2.1 3)))] := hD
    refine lv_iconst (v := 1) hx hb dX7_undo_44 (by decide +kernel) ?_
    exact k_ri B hP hD hS dX7_undo_45 ((fun k9 => match k9 with | 0 => y_27 | _ => 0), (fun _ => 0), (fun k9 => match k9 with | 0 => f48 | 1 => (upd f49 0 (f49 r_38.toNatClampNeg)) | 2 => (upd f50 0 (f50 r_38.toNatClampNeg)) | 3 => (upd f51 0 (f51 r_38.toNatClampNeg)) | 4 => (upd f52 0 (f52 r_38.toNatClampNeg)) | 5 => (upd f53 0 (f53 r_38.toNatClampNeg)) | 6 => (u_41.2.2.1 0) | 7 => (u_41.2.2.1 1) | 8 => (u_41.2.2.1 2) | 9 => (u_41.2.2.1 3) | _ => (fun _ => 0)), (fun _ => (fun _ => 0)), (fun _ => 0)) [1, 0, 2, 3, 4, 5, 6, 7, 8, 9, 10] rfl rfl rfl (Nat.le_of_ble_eq_true rfl) (Nat.le_of_ble_eq_true rfl) ⟨(show iR 1 0 1 from (iR_c (n := 1) (a := 0) (b := 1) (by decide +kernel) (by decide +kernel))), (show iR y_27 0 19 from f_27_3), (show aR (upd f49 0 (f49 r_38.toNatClampNeg)) 0 1023 from (aR_upd _ hf49 (show iR (f49 r_38.toNatClampNeg) 0 1023 from hf49 _))), (show aR (upd f50 0 (f50 r_38.toNatClampNeg)) 0 999 from (aR_upd _ hf50 (show iR (f50 r_38.toNatClampNeg) 0 999 from hf50 _))), (show aR (upd f53 0 (f53 r_38.toNatClampNeg)) 0 50 from (aR_upd _ hf53 (show iR (f53 r_38.toNatClampNeg) 0 50 from hf53 _)))⟩
  · have c_4 : (i 59) = 0 := c_4
    have f_7_2 : iR (i 59) 0 0 := iR_eqL c_4 f_1_1 (iR_c (n := 0) (a := 0) (b := 0) (by decide +kernel) (by decide +kernel)) (by decide +kernel)
    refine lv_aload_n hx hb dX7_undo_7 rfl (lv_at hl 0 rfl) ?_
    refine lv_iconst (v := 4) hx hb dX7_undo_8 (by decide +kernel) ?_
    refine k_ci (wc := [(h, .inr (7, oM r i j)), ((r 48), .inl (cI, 6, .inl f48))]) (wr := [((r 49), .inl (cI, 22, .inl f49)), ((r 50), .inl (cI, 22, .inl f50)), ((r 51), .inl (cI, 22, .inl f51)), ((r 52), .inl (cI, 22, .inl f52)), ((r 53), .inl (cI, 22, .inl f53)), ((r 54), .inl (cI, 1100, .inl f54)), ((r 55), .inl (cI, 1100, .inl f55)), ((r 56), .inl (cI, 1100, .inl f56)), ((r 57), .inl (cI, 1100, .inl f57))]) (fun hPc hDc hFc => va_runV (As := [.int 4]) (rest := []) ⟨hx, hb, hml, hown, hts⟩ (s_X7_refuses_v0 l dC dI cI cJ cZ cM h r i j 4 f48 (iR_c (n := 4) (a := 0) (b := 5) (by decide +kernel) (by decide +kernel)) hI H.size) (cwV 1 hts gX7_undo_X7_refuses rfl rfl rfl (by decide +kernel) ⟨(Nat.le_of_ble_eq_true rfl), (Nat.le_of_ble_eq_true rfl)⟩) (k_pV hPc hDc hK hN hC hS hFc hP (q0 := 0) (ci := 7) rfl rfl) rfl rfl hl.1 rfl (lv_room (Nat.le_of_ble_eq_true rfl)) dX7_undo_9 ⟨(Nat.le_of_ble_eq_true rfl), (Nat.le_of_ble_eq_true rfl)⟩) hP hD hS hA [0, 1] [2, 3, 4, 5, 6, 7, 8, 9, 10] rfl rfl rfl rfl (by decide) (fun _ => rfl) 0 0 rfl rfl (fun r_9 u_9 H locs hw hP hD hS => ?_)
    have g_9_0 := hw
    obtain rfl : r_9 = (-1) := g_9_0
    have hP : va_P (dC, dI) vwCl [((r 49), .inl (cI, 22, .inl f49)), ((r 50), .inl (cI, 22, .inl f50)), ((r 51), .inl (cI, 22, .inl f51)), ((r 52), .inl (cI, 22, .inl f52)), ((r 53), .inl (cI, 22, .inl f53)), ((r 54), .inl (cI, 1100, .inl f54)), ((r 55), .inl (cI, 1100, .inl f55)), ((r 56), .inl (cI, 1100, .inl f56)), ((r 57), .inl (cI, 1100, .inl f57)), (h, .inr (7, oM r i j)), ((r 48), .inl (cI, 6, .inl (u_9.2.2.1 0)))] H := hP
    have hD : va_D A [((r 49), .inl (cI, 22, .inl f49)), ((r 50), .inl (cI, 22, .inl f50)), ((r 51), .inl (cI, 22, .inl f51)), ((r 52), .inl (cI, 22, .inl f52)), ((r 53), .inl (cI, 22, .inl f53)), ((r 54), .inl (cI, 1100, .inl f54)), ((r 55), .inl (cI, 1100, .inl f55)), ((r 56), .inl (cI, 1100, .inl f56)), ((r 57), .inl (cI, 1100, .inl f57)), (h, .inr (7, oM r i j)), ((r 48), .inl (cI, 6, .inl (u_9.2.2.1 0)))] := hD
    refine lv_if_lt (tgt := 19) hx hb dX7_undo_12 (by decide) (fun _ => ?_) (fun q9 => absurd q9 (by decide +kernel))
    refine lv_iconst (v := 0) hx hb dX7_undo_19 (by decide +kernel) ?_
    exact k_ri B hP hD hS dX7_undo_20 ((fun k9 => match k9 with | 0 => (i 59) | _ => 0), (fun _ => 0), (fun k9 => match k9 with | 0 => (u_9.2.2.1 0) | 1 => f49 | 2 => f50 | 3 => f51 | 4 => f52 | 5 => f53 | 6 => f54 | 7 => f55 | 8 => f56 | 9 => f57 | _ => (fun _ => 0)), (fun _ => (fun _ => 0)), (fun _ => 0)) [9, 10, 0, 1, 2, 3, 4, 5, 6, 7, 8] rfl rfl rfl (Nat.le_of_ble_eq_true rfl) (Nat.le_of_ble_eq_true rfl) ⟨(show iR 0 0 1 from (iR_c (n := 0) (a := 0) (b := 1) (by decide +kernel) (by decide +kernel))), (show iR (i 59) 0 19 from (iR_w f_7_2 (by decide +kernel))), (show aR f49 0 1023 from hf49), (show aR f50 0 999 from hf50), (show aR f53 0 50 from hf53)⟩
set_option maxHeartbeats 8000000 in
set_option maxRecDepth 100000 in
theorem s_X7_seed_v0 (l : Launch) (dC : Nat → ClassId) (dI : Nat → Nat → Nat) (cI cJ cZ cM : ClassId) (h : Nat) (r : Nat → Nat) (i : Nat → Int32) (j : Nat → Int64) (x1 : Int32) (f48 : Nat → Int32) (hI : mR i) (hJ60 : lR (j 60) 0 2147483647) : k_Mi l yX7_seed wsX7_seed ({ frames := 2, cells := 0, slots := 0, locals := 61 }) (dC, dI) vwCl (tyy cI cJ cZ cM) [(h, .inr (7, oM r i j)), ((r 48), .inl (cI, 6, .inl f48))] [.ref h, .int x1] 0 0 (fun (u9 : SU) => [(h, .inr (7, oM r i (vp_updL j 60 (u9.2.1 0)))), ((r 48), .inl (cI, 6, .inl (u9.2.2.1 0)))]) (fun (r9 : Int32) (u9 : SU) => (iR r9 0 1) ∧ (lR (u9.2.1 0) 0 2147483647)) := by
  refine fun sz => k_enter (cc := cX7_seed) (maxL := 2) (ret := some (.boolean)) (Qc := fun A => va_Qi (fun (r9 : Int32) (u9 : SU) => (iR r9 0 1) ∧ (lR (u9.2.1 0) 0 2147483647)) (fun u => k_B (dC, dI) vwCl (tyy cI cJ cZ cM) A ((fun (u9 : SU) => [(h, .inr (7, oM r i (vp_updL j 60 (u9.2.1 0)))), ((r 48), .inl (cI, 6, .inl (u9.2.2.1 0)))]) u)) A) sz (by decide +kernel) rfl (Nat.le_of_ble_eq_true rfl) (fun p e s m args below meth c A ls H locs B hP hD hS hl => ?_)
  obtain ⟨hx, hb, hml, hown, hts, hr, hlk, hnm, hK, hA, hN, hC⟩ := id B
  have hown : s.vm.findClass RX7 = some m.cls := hown
  have hl : lv_has ls 2 [(0, .ref h), (1, .int x1)] := hl
  have w_0 : (Cond.fieldLink RX7 195 "WishSeaModel" "seeds" "J").before args s = true := hts _ (List.mem_of_getElem? (i := 1) rfl)
  have hinX7 : ∀ w ∈ u_ws RX7 TX7 92, w ∈ wsX7_seed := fun _ h => List.mem_cons_of_mem _ (List.mem_append_right _ h)
  refine lv_iload_n hx hb dX7_seed_0 rfl (lv_at hl 1 rfl) ?_
  refine lv_if_ge (tgt := 18) hx hb dX7_seed_1 (by decide) (fun c_1 => ?_) (fun c_1 => ?_)
  · have c_1 : 0 ≤ x1 := c_1
    have f_18_1 : iR x1 0 2147483647 := iR_leR c_1 (iR_c (n := 0) (a := 0) (b := 0) (by decide +kernel) (by decide +kernel)) (iR_top _) (by decide +kernel)
    refine lv_aload_n hx hb dX7_seed_18 rfl (lv_at hl 0 rfl) ?_
    refine lv_iload_n hx hb dX7_seed_19 rfl (lv_at hl 1 rfl) ?_
    refine lv_i2l (v := x1.toInt64) hx hb dX7_seed_20 rfl ?_
    refine lv_topl (fun y_20 ey_20 => ?_)
    have f_20_2 : lR y_20 0 2147483647 := lR_i2l ey_20 f_18_1
    refine k_put (D := (dC, dI)) (ci := 7) (v := .long y_20) (C := RX7) (T := TX7) (N := 92) (ws' := [(h, .inr (7, oM r i (vp_updL j 60 y_20))), ((r 48), .inl (cI, 6, .inl f48))]) hx hb hts hinX7 tyX7 tyX7_ok nmX7 hown hK hP hD hS 0 rfl rfl 60 (by decide) w_0 rfl rfl rfl rfl (Nat.le_of_ble_eq_true rfl) rfl dX7_seed_21 (fun H locs hP hD hS => ?_)
    refine lv_iconst (v := 1) hx hb dX7_seed_24 (by decide +kernel) ?_
    exact k_ri B hP hD hS dX7_seed_25 ((fun _ => 0), (fun k9 => match k9 with | 0 => y_20 | _ => 0), (fun k9 => match k9 with | 0 => f48 | _ => (fun _ => 0)), (fun _ => (fun _ => 0)), (fun _ => 0)) [0, 1] rfl rfl rfl (Nat.le_of_ble_eq_true rfl) (Nat.le_of_ble_eq_true rfl) ⟨(show iR 1 0 1 from (iR_c (n := 1) (a := 0) (b := 1) (by decide +kernel) (by decide +kernel))), (show lR y_20 0 2147483647 from f_20_2)⟩
  · have c_1 : x1 < 0 := i_nle c_1
    have f_4_1 : iR x1 (-2147483648) (-1) := iR_ltL c_1 (iR_top _) (iR_c (n := 0) (a := 0) (b := 0) (by decide +kernel) (by decide +kernel)) (by decide +kernel)
    refine lv_aload_n hx hb dX7_seed_4 rfl (lv_at hl 0 rfl) ?_
    refine lv_iconst (v := 5) hx hb dX7_seed_5 (by decide +kernel) ?_
    refine k_ci (wc := [(h, .inr (7, oM r i j)), ((r 48), .inl (cI, 6, .inl f48))]) (wr := []) (fun hPc hDc hFc => va_runV (As := [.int 5]) (rest := []) ⟨hx, hb, hml, hown, hts⟩ (s_X7_refuses_v0 l dC dI cI cJ cZ cM h r i j 5 f48 (iR_c (n := 5) (a := 0) (b := 5) (by decide +kernel) (by decide +kernel)) hI H.size) (cwV 1 hts gX7_seed_X7_refuses rfl rfl rfl (by decide +kernel) ⟨(Nat.le_of_ble_eq_true rfl), (Nat.le_of_ble_eq_true rfl)⟩) (k_pV hPc hDc hK hN hC hS hFc hP (q0 := 0) (ci := 7) rfl rfl) rfl rfl hl.1 rfl (lv_room (Nat.le_of_ble_eq_true rfl)) dX7_seed_6 ⟨(Nat.le_of_ble_eq_true rfl), (Nat.le_of_ble_eq_true rfl)⟩) hP hD hS hA [0, 1] [] rfl rfl rfl rfl (by decide) (fun _ => rfl) 0 0 rfl rfl (fun r_6 u_6 H locs hw hP hD hS => ?_)
    have g_6_0 := hw
    obtain rfl : r_6 = (-1) := g_6_0
    have hP : va_P (dC, dI) vwCl [(h, .inr (7, oM r i j)), ((r 48), .inl (cI, 6, .inl (u_6.2.2.1 0)))] H := hP
    have hD : va_D A [(h, .inr (7, oM r i j)), ((r 48), .inl (cI, 6, .inl (u_6.2.2.1 0)))] := hD
    refine lv_if_lt (tgt := 16) hx hb dX7_seed_9 (by decide) (fun _ => ?_) (fun q9 => absurd q9 (by decide +kernel))
    refine lv_iconst (v := 0) hx hb dX7_seed_16 (by decide +kernel) ?_
    exact k_ri B hP hD hS dX7_seed_17 ((fun _ => 0), (fun k9 => match k9 with | 0 => (j 60) | _ => 0), (fun k9 => match k9 with | 0 => (u_6.2.2.1 0) | _ => (fun _ => 0)), (fun _ => (fun _ => 0)), (fun _ => 0)) [0, 1] rfl rfl rfl (Nat.le_of_ble_eq_true rfl) (Nat.le_of_ble_eq_true rfl) ⟨(show iR 0 0 1 from (iR_c (n := 0) (a := 0) (b := 1) (by decide +kernel) (by decide +kernel))), (show lR (j 60) 0 2147483647 from hJ60)⟩
set_option maxHeartbeats 8000000 in
set_option maxRecDepth 100000 in
theorem s_X7_kept_v0 (l : Launch) (dC : Nat → ClassId) (dI : Nat → Nat → Nat) (cI cJ cZ cM : ClassId) (h : Nat) (r : Nat → Nat) (i : Nat → Int32) (j : Nat → Int64) (x1 : Int32) (x2 : Int32) (f53 : Nat → Int32) (f54 : Nat → Int32) (f55 : Nat → Int32) (f56 : Nat → Int32) (f57 : Nat → Int32) (hI : mR i) (hf53 : aR f53 0 50) : k_Mi l yX7_kept wsX7_kept ({ frames := 2, cells := 0, slots := 0, locals := 62 }) (dC, dI) vwCl (tyy cI cJ cZ cM) [(h, .inr (7, oM r i j)), ((r 53), .inl (cI, 22, .inl f53)), ((r 54), .inl (cI, 1100, .inl f54)), ((r 55), .inl (cI, 1100, .inl f55)), ((r 56), .inl (cI, 1100, .inl f56)), ((r 57), .inl (cI, 1100, .inl f57))] [.ref h, .int x1, .int x2] 0 0 (fun (u9 : Unit) => [(h, .inr (7, oM r i j)), ((r 53), .inl (cI, 22, .inl f53)), ((r 54), .inl (cI, 1100, .inl f54)), ((r 55), .inl (cI, 1100, .inl f55)), ((r 56), .inl (cI, 1100, .inl f56)), ((r 57), .inl (cI, 1100, .inl f57))]) (fun (r9 : Int32) (u9 : Unit) => True) := by
  refine fun sz => k_enter (cc := cX7_kept) (maxL := 3) (ret := some (.int)) (Qc := fun A => va_Qi (fun (r9 : Int32) (u9 : Unit) => True) (fun u => k_B (dC, dI) vwCl (tyy cI cJ cZ cM) A ((fun (u9 : Unit) => [(h, .inr (7, oM r i j)), ((r 53), .inl (cI, 22, .inl f53)), ((r 54), .inl (cI, 1100, .inl f54)), ((r 55), .inl (cI, 1100, .inl f55)), ((r 56), .inl (cI, 1100, .inl f56)), ((r 57), .inl (cI, 1100, .inl f57))]) u)) A) sz (by decide +kernel) rfl (Nat.le_of_ble_eq_true rfl) (fun p e s m args below meth c A ls H locs B hP hD hS hl => ?_)
  obtain ⟨hx, hb, hml, hown, hts, hr, hlk, hnm, hK, hA, hN, hC⟩ := id B
  have hown : s.vm.findClass RX7 = some m.cls := hown
  have hl : lv_has ls 3 [(0, .ref h), (1, .int x1), (2, .int x2)] := hl
  have w_0 : (Cond.fieldLink RX7 174 "WishSeaModel" "keptMany" "[I").before args s = true := hts _ (List.mem_of_getElem? (i := 1) rfl)
  have w_1 : (Cond.fieldLink RX7 186 "WishSeaModel" "keptFell" "[I").before args s = true := hts _ (List.mem_of_getElem? (i := 5) rfl)
  have w_2 : (Cond.fieldLink RX7 183 "WishSeaModel" "keptSea" "[I").before args s = true := hts _ (List.mem_of_getElem? (i := 4) rfl)
  have w_3 : (Cond.fieldLink RX7 180 "WishSeaModel" "keptWish" "[I").before args s = true := hts _ (List.mem_of_getElem? (i := 3) rfl)
  have w_4 : (Cond.fieldLink RX7 177 "WishSeaModel" "keptDay" "[I").before args s = true := hts _ (List.mem_of_getElem? (i := 2) rfl)
  have hinX7 : ∀ w ∈ u_ws RX7 TX7 92, w ∈ wsX7_kept := fun _ h => List.mem_cons_of_mem _ (List.mem_append_right _ h)
  refine lv_iload_n hx hb dX7_kept_0 rfl (lv_at hl 1 rfl) ?_
  refine lv_iconst (v := 0) hx hb dX7_kept_1 (by decide +kernel) ?_
  refine lv_aload_n hx hb dX7_kept_2 rfl (lv_at hl 0 rfl) ?_
  refine k_get (D := (dC, dI)) (ci := 7) (v := .ref (r 53)) (C := RX7) (T := TX7) (N := 92) hx hb hts hinX7 hown hK hP 0 rfl rfl 53 (by decide) w_0 rfl rfl dX7_kept_3 ?_
  refine lv_iconst (v := 0) hx hb dX7_kept_6 (by decide +kernel) ?_
  refine k_iald (v := (f53 0)) hx hb hK hP 1 0 0 rfl rfl rfl (Nat.le_of_ble_eq_true rfl) (Nat.le_of_ble_eq_true rfl) rfl dX7_kept_7 ?_
  have f_7_1 : iR (f53 0) 0 50 := hf53 _
  refine lv_iconst (v := 1) hx hb dX7_kept_8 (by decide +kernel) ?_
  refine lv_isub hx hb dX7_kept_9 ?_
  refine lv_topi (fun y_9 ey_9 => ?_)
  have f_9_2 : iR y_9 (-1) 49 := iR_sub ey_9 f_7_1 (iR_c (n := 1) (a := 1) (b := 1) (by decide +kernel) (by decide +kernel)) (by decide +kernel)
  refine k_ci (wc := []) (wr := [(h, .inr (7, oM r i j)), ((r 53), .inl (cI, 22, .inl f53)), ((r 54), .inl (cI, 1100, .inl f54)), ((r 55), .inl (cI, 1100, .inl f55)), ((r 56), .inl (cI, 1100, .inl f56)), ((r 57), .inl (cI, 1100, .inl f57))]) (fun hPc hDc hFc => va_runS (As := [.int x1, .int 0, .int y_9]) (rest := []) ⟨hx, hb, hml, hown, hts⟩ (s_X7_is_v0 l dC dI cI cJ cZ cM x1 0 y_9 H.size) (va_cwS 3 hts gX7_kept_X7_is rfl rfl rfl (by decide +kernel) ⟨(Nat.le_of_ble_eq_true rfl), (Nat.le_of_ble_eq_true rfl)⟩) (k_pS hPc hDc hK hN hC hS hFc) rfl rfl hl.1 rfl (lv_room (Nat.le_of_ble_eq_true rfl)) dX7_kept_10 ⟨(Nat.le_of_ble_eq_true rfl), (Nat.le_of_ble_eq_true rfl)⟩) hP hD hS hA [] [0, 1, 2, 3, 4, 5] rfl rfl rfl rfl (by decide) (fun _ => rfl) 0 0 rfl rfl (fun r_10 u_10 H locs hw hP hD hS => ?_)
  obtain ⟨g_10_0, g_10_1⟩ := hw
  have hP : va_P (dC, dI) vwCl [(h, .inr (7, oM r i j)), ((r 53), .inl (cI, 22, .inl f53)), ((r 54), .inl (cI, 1100, .inl f54)), ((r 55), .inl (cI, 1100, .inl f55)), ((r 56), .inl (cI, 1100, .inl f56)), ((r 57), .inl (cI, 1100, .inl f57))] H := hP
  have hD : va_D A [(h, .inr (7, oM r i j)), ((r 53), .inl (cI, 22, .inl f53)), ((r 54), .inl (cI, 1100, .inl f54)), ((r 55), .inl (cI, 1100, .inl f55)), ((r 56), .inl (cI, 1100, .inl f56)), ((r 57), .inl (cI, 1100, .inl f57))] := hD
  have g_10_1 : (r_10 = 0) ∨ ((0 ≤ x1) ∧ (x1 ≤ y_9)) := g_10_1
  have J_25 : ∀   (H : Heap) (locs : List Loc) (ls : Array Slot), va_P (dC, dI) vwCl [(h, .inr (7, oM r i j)), ((r 53), .inl (cI, 22, .inl f53)), ((r 54), .inl (cI, 1100, .inl f54)), ((r 55), .inl (cI, 1100, .inl f55)), ((r 56), .inl (cI, 1100, .inl f56)), ((r 57), .inl (cI, 1100, .inl f57))] H → va_D A [(h, .inr (7, oM r i j)), ((r 53), .inl (cI, 22, .inl f53)), ((r 54), .inl (cI, 1100, .inl f54)), ((r 55), .inl (cI, 1100, .inl f55)), ((r 56), .inl (cI, 1100, .inl f56)), ((r 57), .inl (cI, 1100, .inl f57))] → va_S A s.heap H locs → lv_has ls 3 [] → W p l e ({ frames := 2, cells := 0, slots := 0, locals := 62 }) s m args below meth c H locs 0 0 (MQ below (va_Qi (fun (r9 : Int32) (u9 : Unit) => True) (fun u => k_B (dC, dI) vwCl (tyy cI cJ cZ cM) A ((fun (u9 : Unit) => [(h, .inr (7, oM r i j)), ((r 53), .inl (cI, 22, .inl f53)), ((r 54), .inl (cI, 1100, .inl f54)), ((r 55), .inl (cI, 1100, .inl f55)), ((r 56), .inl (cI, 1100, .inl f56)), ((r 57), .inl (cI, 1100, .inl f57))]) u)) A) args s 0 0 A) (F0 m 25 ls []) := by
    intro   H locs ls hP hD hS hl
    refine lv_iconst (v := (-1)) hx hb dX7_kept_25 (by decide +kernel) ?_
    exact k_ri B hP hD hS dX7_kept_26 () [0, 1, 2, 3, 4, 5] rfl rfl rfl (Nat.le_of_ble_eq_true rfl) (Nat.le_of_ble_eq_true rfl) trivial
  refine lv_if_eq (tgt := 25) hx hb dX7_kept_13 (by decide) (fun c_13 => ?_) (fun c_13 => ?_)
  · have c_13 : r_10 = 0 := c_13
    have f_25_3 : iR r_10 0 0 := iR_eqL c_13 g_10_0 (iR_c (n := 0) (a := 0) (b := 0) (by decide +kernel) (by decide +kernel)) (by decide +kernel)
    exact J_25   H locs ls hP hD hS (lv_sub hl [] rfl)
  · have c_13 : ¬ r_10 = 0 := c_13
    have f_16_3 : iR r_10 1 1 := iR_neL c_13 g_10_0 (iR_c (n := 0) (a := 0) (b := 0) (by decide +kernel) (by decide +kernel)) (by decide +kernel)
    obtain ⟨d_13_1_0, d_13_1_1⟩ := g_10_1.resolve_left c_13
    have f_16_4 : iR x1 0 2147483647 := iR_leR d_13_1_0 (iR_c (n := 0) (a := 0) (b := 0) (by decide +kernel) (by decide +kernel)) (iR_top _) (by decide +kernel)
    have f_16_5 : iR x1 0 49 := iR_leL d_13_1_1 f_16_4 f_9_2 (by decide +kernel)
    have f_16_6 : iR y_9 0 49 := iR_leR d_13_1_1 f_16_4 f_9_2 (by decide +kernel)
    refine lv_iload_n hx hb dX7_kept_16 rfl (lv_at hl 2 rfl) ?_
    refine lv_iconst (v := 0) hx hb dX7_kept_17 (by decide +kernel) ?_
    refine lv_iconst (v := 3) hx hb dX7_kept_18 (by decide +kernel) ?_
    refine k_ci (wc := []) (wr := [(h, .inr (7, oM r i j)), ((r 53), .inl (cI, 22, .inl f53)), ((r 54), .inl (cI, 1100, .inl f54)), ((r 55), .inl (cI, 1100, .inl f55)), ((r 56), .inl (cI, 1100, .inl f56)), ((r 57), .inl (cI, 1100, .inl f57))]) (fun hPc hDc hFc => va_runS (As := [.int x2, .int 0, .int 3]) (rest := []) ⟨hx, hb, hml, hown, hts⟩ (s_X7_is_v0 l dC dI cI cJ cZ cM x2 0 3 H.size) (va_cwS 3 hts gX7_kept_X7_is rfl rfl rfl (by decide +kernel) ⟨(Nat.le_of_ble_eq_true rfl), (Nat.le_of_ble_eq_true rfl)⟩) (k_pS hPc hDc hK hN hC hS hFc) rfl rfl hl.1 rfl (lv_room (Nat.le_of_ble_eq_true rfl)) dX7_kept_19 ⟨(Nat.le_of_ble_eq_true rfl), (Nat.le_of_ble_eq_true rfl)⟩) hP hD hS hA [] [0, 1, 2, 3, 4, 5] rfl rfl rfl rfl (by decide) (fun _ => rfl) 0 0 rfl rfl (fun r_19 u_19 H locs hw hP hD hS => ?_)
    obtain ⟨g_19_0, g_19_1⟩ := hw
    have hP : va_P (dC, dI) vwCl [(h, .inr (7, oM r i j)), ((r 53), .inl (cI, 22, .inl f53)), ((r 54), .inl (cI, 1100, .inl f54)), ((r 55), .inl (cI, 1100, .inl f55)), ((r 56), .inl (cI, 1100, .inl f56)), ((r 57), .inl (cI, 1100, .inl f57))] H := hP
    have hD : va_D A [(h, .inr (7, oM r i j)), ((r 53), .inl (cI, 22, .inl f53)), ((r 54), .inl (cI, 1100, .inl f54)), ((r 55), .inl (cI, 1100, .inl f55)), ((r 56), .inl (cI, 1100, .inl f56)), ((r 57), .inl (cI, 1100, .inl f57))] := hD
    have g_19_1 : (r_19 = 0) ∨ ((0 ≤ x2) ∧ (x2 ≤ 3)) := g_19_1
    refine lv_if_ne (tgt := 27) hx hb dX7_kept_22 (by decide) (fun c_22 => ?_) (fun c_22 => ?_)
    · have c_22 : ¬ r_19 = 0 := c_22
      have f_27_7 : iR r_19 1 1 := iR_neL c_22 g_19_0 (iR_c (n := 0) (a := 0) (b := 0) (by decide +kernel) (by decide +kernel)) (by decide +kernel)
      obtain ⟨d_22_2_0, d_22_2_1⟩ := g_19_1.resolve_left c_22
      have f_27_8 : iR x2 0 2147483647 := iR_leR d_22_2_0 (iR_c (n := 0) (a := 0) (b := 0) (by decide +kernel) (by decide +kernel)) (iR_top _) (by decide +kernel)
      have f_27_9 : iR x2 0 3 := iR_leL d_22_2_1 f_27_8 (iR_c (n := 3) (a := 3) (b := 3) (by decide +kernel) (by decide +kernel)) (by decide +kernel)
      refine lv_iload_n hx hb dX7_kept_27 rfl (lv_at hl 2 rfl) ?_
      refine lv_if_ne (tgt := 40) hx hb dX7_kept_28 (by decide) (fun c_28 => ?_) (fun c_28 => ?_)
      · have c_28 : ¬ x2 = 0 := c_28
        have f_40_10 : iR x2 1 3 := iR_ltR (i_ltne d_22_2_0 (fun q => c_28 q.symm)) (iR_c (n := 0) (a := 0) (b := 0) (by decide +kernel) (by decide +kernel)) f_27_9 (by decide +kernel)
        refine lv_iload_n hx hb dX7_kept_40 rfl (lv_at hl 2 rfl) ?_
        refine lv_iconst (v := 1) hx hb dX7_kept_41 (by decide +kernel) ?_
        refine lv_icmp_ne (tgt := 54) hx hb dX7_kept_42 (by decide) (fun c_42 => ?_) (fun c_42 => ?_)
        · have c_42 : ¬ x2 = 1 := c_42
          have f_54_11 : iR x2 2 3 := iR_neL c_42 f_40_10 (iR_c (n := 1) (a := 1) (b := 1) (by decide +kernel) (by decide +kernel)) (by decide +kernel)
          refine lv_iload_n hx hb dX7_kept_54 rfl (lv_at hl 2 rfl) ?_
          refine lv_iconst (v := 2) hx hb dX7_kept_55 (by decide +kernel) ?_
          refine lv_icmp_ne (tgt := 68) hx hb dX7_kept_56 (by decide) (fun c_56 => ?_) (fun c_56 => ?_)
          · have c_56 : ¬ x2 = 2 := c_56
            have f_68_12 : iR x2 3 3 := iR_neL c_56 f_54_11 (iR_c (n := 2) (a := 2) (b := 2) (by decide +kernel) (by decide +kernel)) (by decide +kernel)
            refine lv_aload_n hx hb dX7_kept_68 rfl (lv_at hl 0 rfl) ?_
            refine k_get (D := (dC, dI)) (ci := 7) (v := .ref (r 57)) (C := RX7) (T := TX7) (N := 92) hx hb hts hinX7 hown hK hP 0 rfl rfl 57 (by decide) w_1 rfl rfl dX7_kept_69 ?_
            refine lv_iload_n hx hb dX7_kept_72 rfl (lv_at hl 1 rfl) ?_
            refine va_iald hx hb hK hP 5 0 rfl rfl (iR_vp f_16_5 (by decide +kernel)) dX7_kept_73 ?_
            exact k_ri B hP hD hS dX7_kept_74 () [0, 1, 2, 3, 4, 5] rfl rfl rfl (Nat.le_of_ble_eq_true rfl) (Nat.le_of_ble_eq_true rfl) trivial
          · have c_56 : x2 = 2 := c_56
            have f_59_12 : iR x2 2 2 := iR_eqL c_56 f_54_11 (iR_c (n := 2) (a := 2) (b := 2) (by decide +kernel) (by decide +kernel)) (by decide +kernel)
            refine lv_aload_n hx hb dX7_kept_59 rfl (lv_at hl 0 rfl) ?_
            refine k_get (D := (dC, dI)) (ci := 7) (v := .ref (r 56)) (C := RX7) (T := TX7) (N := 92) hx hb hts hinX7 hown hK hP 0 rfl rfl 56 (by decide) w_2 rfl rfl dX7_kept_60 ?_
            refine lv_iload_n hx hb dX7_kept_63 rfl (lv_at hl 1 rfl) ?_
            refine va_iald hx hb hK hP 4 0 rfl rfl (iR_vp f_16_5 (by decide +kernel)) dX7_kept_64 ?_
            refine lv_goto (tgt := 74) hx hb dX7_kept_65 (by decide) ?_
            exact k_ri B hP hD hS dX7_kept_74 () [0, 1, 2, 3, 4, 5] rfl rfl rfl (Nat.le_of_ble_eq_true rfl) (Nat.le_of_ble_eq_true rfl) trivial
        · have c_42 : x2 = 1 := c_42
          have f_45_11 : iR x2 1 1 := iR_eqL c_42 f_40_10 (iR_c (n := 1) (a := 1) (b := 1) (by decide +kernel) (by decide +kernel)) (by decide +kernel)
          refine lv_aload_n hx hb dX7_kept_45 rfl (lv_at hl 0 rfl) ?_
          refine k_get (D := (dC, dI)) (ci := 7) (v := .ref (r 55)) (C := RX7) (T := TX7) (N := 92) hx hb hts hinX7 hown hK hP 0 rfl rfl 55 (by decide) w_3 rfl rfl dX7_kept_46 ?_
          refine lv_iload_n hx hb dX7_kept_49 rfl (lv_at hl 1 rfl) ?_
          refine va_iald hx hb hK hP 3 0 rfl rfl (iR_vp f_16_5 (by decide +kernel)) dX7_kept_50 ?_
          refine lv_goto (tgt := 74) hx hb dX7_kept_51 (by decide) ?_
          exact k_ri B hP hD hS dX7_kept_74 () [0, 1, 2, 3, 4, 5] rfl rfl rfl (Nat.le_of_ble_eq_true rfl) (Nat.le_of_ble_eq_true rfl) trivial
      · have c_28 : x2 = 0 := c_28
        have f_31_10 : iR x2 0 0 := iR_eqL c_28 f_27_9 (iR_c (n := 0) (a := 0) (b := 0) (by decide +kernel) (by decide +kernel)) (by decide +kernel)
        refine lv_aload_n hx hb dX7_kept_31 rfl (lv_at hl 0 rfl) ?_
        refine k_get (D := (dC, dI)) (ci := 7) (v := .ref (r 54)) (C := RX7) (T := TX7) (N := 92) hx hb hts hinX7 hown hK hP 0 rfl rfl 54 (by decide) w_4 rfl rfl dX7_kept_32 ?_
        refine lv_iload_n hx hb dX7_kept_35 rfl (lv_at hl 1 rfl) ?_
        refine va_iald hx hb hK hP 2 0 rfl rfl (iR_vp f_16_5 (by decide +kernel)) dX7_kept_36 ?_
        refine lv_goto (tgt := 74) hx hb dX7_kept_37 (by decide) ?_
        exact k_ri B hP hD hS dX7_kept_74 () [0, 1, 2, 3, 4, 5] rfl rfl rfl (Nat.le_of_ble_eq_true rfl) (Nat.le_of_ble_eq_true rfl) trivial
    · have c_22 : r_19 = 0 := c_22
      have f_25_7 : iR r_19 0 0 := iR_eqL c_22 g_19_0 (iR_c (n := 0) (a := 0) (b := 0) (by decide +kernel) (by decide +kernel)) (by decide +kernel)
      exact J_25   H locs ls hP hD hS (lv_sub hl [] rfl)
set_option maxHeartbeats 8000000 in
set_option maxRecDepth 100000 in
theorem s_X7_areWishes_v0 (l : Launch) (dC : Nat → ClassId) (dI : Nat → Nat → Nat) (cI cJ cZ cM : ClassId) (h : Nat) (r : Nat → Nat) (i : Nat → Int32) (j : Nat → Int64) (x1 : Int32) (f0 : Nat → Int32) (f18 : Nat → Int32) (hx1 : iR x1 0 1600) (hI : mR i) (hf0 : aR f0 0 255) (hf18 : aR f18 0 12) : k_Mi l yX7_areWishes wsX7_areWishes ({ frames := 2, cells := 0, slots := 0, locals := 61 }) (dC, dI) vwCl (tyy cI cJ cZ cM) [(h, .inr (7, oM r i j)), ((r 0), .inl (cI, 1800, .inl f0)), ((r 18), .inl (cI, 2, .inl f18))] [.ref h, .int x1, .int 1] 0 0 (fun (u9 : Unit) => [(h, .inr (7, oM r i j)), ((r 0), .inl (cI, 1800, .inl f0)), ((r 18), .inl (cI, 2, .inl f18))]) (fun (r9 : Int32) (u9 : Unit) => (iR r9 0 1) ∧ ((r9 = 0) ∨ ((AW f0 (f18 (i 13).toNatClampNeg) x1 1)))) := by
  refine fun sz => k_enter (cc := cX7_areWishes) (maxL := 4) (ret := some (.boolean)) (Qc := fun A => va_Qi (fun (r9 : Int32) (u9 : Unit) => (iR r9 0 1) ∧ ((r9 = 0) ∨ ((AW f0 (f18 (i 13).toNatClampNeg) x1 1)))) (fun u => k_B (dC, dI) vwCl (tyy cI cJ cZ cM) A ((fun (u9 : Unit) => [(h, .inr (7, oM r i j)), ((r 0), .inl (cI, 1800, .inl f0)), ((r 18), .inl (cI, 2, .inl f18))]) u)) A) sz (by decide +kernel) rfl (Nat.le_of_ble_eq_true rfl) (fun p e s m args below meth c A ls H locs B hP hD hS hl => ?_)
  obtain ⟨hx, hb, hml, hown, hts, hr, hlk, hnm, hK, hA, hN, hC⟩ := id B
  have hown : s.vm.findClass RX7 = some m.cls := hown
  have hl : lv_has ls 4 [(0, .ref h), (1, .int x1), (2, .int 1)] := hl
  have w_0 : (Cond.fieldLink RX7 7 "WishSeaModel" "tape" "[I").before args s = true := hts _ (List.mem_of_getElem? (i := 1) rfl)
  have hinX7 : ∀ w ∈ u_ws RX7 TX7 92, w ∈ wsX7_areWishes := fun _ h => List.mem_cons_of_mem _ (List.mem_append_right _ h)
  refine lv_iconst (v := 0) hx hb dX7_areWishes_0 (by decide +kernel) ?_
  have J_2 : ∀ (n_2 : Nat) (j2_L3 : Int32) (hj2_L3 : iR j2_L3 0 1600) (p2_0 : AW f0 (f18 (i 13).toNatClampNeg) j2_L3 1) (hm_2 : (1600 - j2_L3.toInt).toNat < n_2) (H : Heap) (locs : List Loc) (ls : Array Slot), va_P (dC, dI) vwCl [(h, .inr (7, oM r i j)), ((r 0), .inl (cI, 1800, .inl f0)), ((r 18), .inl (cI, 2, .inl f18))] H → va_D A [(h, .inr (7, oM r i j)), ((r 0), .inl (cI, 1800, .inl f0)), ((r 18), .inl (cI, 2, .inl f18))] → va_S A s.heap H locs → lv_has ls 4 [(0, .ref h), (1, .int x1), (2, .int 1), (3, .int j2_L3)] → W p l e ({ frames := 2, cells := 0, slots := 0, locals := 61 }) s m args below meth c H locs 0 0 (MQ below (va_Qi (fun (r9 : Int32) (u9 : Unit) => (iR r9 0 1) ∧ ((r9 = 0) ∨ ((AW f0 (f18 (i 13).toNatClampNeg) x1 1)))) (fun u => k_B (dC, dI) vwCl (tyy cI cJ cZ cM) A ((fun (u9 : Unit) => [(h, .inr (7, oM r i j)), ((r 0), .inl (cI, 1800, .inl f0)), ((r 18), .inl (cI, 2, .inl f18))]) u)) A) args s 0 0 A) (F0 m 2 ls []) := by
    intro n_2
    induction n_2 with
    | zero => intro j2_L3 hj2_L3 p2_0 hm_2; exact absurd hm_2 (Nat.not_lt_zero _)
    | succ n_2 ih_2 =>
      intro j2_L3 hj2_L3 p2_0 hm_2 H locs ls hP hD hS hl
      refine lv_iload_n hx hb dX7_areWishes_2 rfl (lv_at hl 3 rfl) ?_
      refine lv_iload_n hx hb dX7_areWishes_3 rfl (lv_at hl 1 rfl) ?_
      refine lv_icmp_ge (tgt := 44) hx hb dX7_areWishes_4 (by decide) (fun c_4 => ?_) (fun c_4 => ?_)
      · have c_4 : x1 ≤ j2_L3 := c_4
        refine lv_iconst (v := 1) hx hb dX7_areWishes_44 (by decide +kernel) ?_
        exact k_ri B hP hD hS dX7_areWishes_45 () [0, 1, 2] rfl rfl rfl (Nat.le_of_ble_eq_true rfl) (Nat.le_of_ble_eq_true rfl) ⟨(show iR 1 0 1 from (iR_c (n := 1) (a := 0) (b := 1) (by decide +kernel) (by decide +kernel))), (show (1 = 0) ∨ ((AW f0 (f18 (i 13).toNatClampNeg) x1 1)) from (Or.inr (AW_le p2_0 c_4)))⟩
      · have c_4 : j2_L3 < x1 := i_nle c_4
        have f_7_1 : iR j2_L3 0 1599 := iR_ltL c_4 hj2_L3 hx1 (by decide +kernel)
        have f_7_2 : iR x1 1 1600 := iR_ltR c_4 hj2_L3 hx1 (by decide +kernel)
        refine lv_aload_n hx hb dX7_areWishes_7 rfl (lv_at hl 0 rfl) ?_
        refine lv_aload_n hx hb dX7_areWishes_8 rfl (lv_at hl 0 rfl) ?_
        refine k_get (D := (dC, dI)) (ci := 7) (v := .ref (r 0)) (C := RX7) (T := TX7) (N := 92) hx hb hts hinX7 hown hK hP 0 rfl rfl 0 (by decide) w_0 rfl rfl dX7_areWishes_9 ?_
        refine lv_iload_n hx hb dX7_areWishes_12 rfl (lv_at hl 3 rfl) ?_
        refine va_iald hx hb hK hP 1 0 rfl rfl (iR_vp f_7_1 (by decide +kernel)) dX7_areWishes_13 ?_
        have f_13_3 : iR (f0 j2_L3.toNatClampNeg) 0 255 := hf0 _
        refine k_ci (wc := [(h, .inr (7, oM r i j)), ((r 18), .inl (cI, 2, .inl f18))]) (wr := [((r 0), .inl (cI, 1800, .inl f0))]) (fun hPc hDc hFc => va_runV (As := [.int (f0 j2_L3.toNatClampNeg)]) (rest := []) ⟨hx, hb, hml, hown, hts⟩ (s_X7_isWish_v0 l dC dI cI cJ cZ cM h r i j (f0 j2_L3.toNatClampNeg) f18 hI hf18 H.size) (cwV 1 hts gX7_areWishes_X7_isWish rfl rfl rfl (by decide +kernel) ⟨(Nat.le_of_ble_eq_true rfl), (Nat.le_of_ble_eq_true rfl)⟩) (k_pV hPc hDc hK hN hC hS hFc hP (q0 := 0) (ci := 7) rfl rfl) rfl rfl hl.1 rfl (lv_room (Nat.le_of_ble_eq_true rfl)) dX7_areWishes_14 ⟨(Nat.le_of_ble_eq_true rfl), (Nat.le_of_ble_eq_true rfl)⟩) hP hD hS hA [0, 2] [1] rfl rfl rfl rfl (by decide) (fun _ => rfl) 0 0 rfl rfl (fun r_14 u_14 H locs hw hP hD hS => ?_)
        obtain ⟨g_14_0, g_14_1⟩ := hw
        have hP : va_P (dC, dI) vwCl [((r 0), .inl (cI, 1800, .inl f0)), (h, .inr (7, oM r i j)), ((r 18), .inl (cI, 2, .inl f18))] H := hP
        have hD : va_D A [((r 0), .inl (cI, 1800, .inl f0)), (h, .inr (7, oM r i j)), ((r 18), .inl (cI, 2, .inl f18))] := hD
        have g_14_1 : (r_14 = 0) ∨ ((0 ≤ (f0 j2_L3.toNatClampNeg)) ∧ ((f0 j2_L3.toNatClampNeg) < (f18 (i 13).toNatClampNeg))) := g_14_1
        refine lv_if_ne (tgt := 38) hx hb dX7_areWishes_17 (by decide) (fun c_17 => ?_) (fun c_17 => ?_)
        · have c_17 : ¬ r_14 = 0 := c_17
          have f_38_4 : iR r_14 1 1 := iR_neL c_17 g_14_0 (iR_c (n := 0) (a := 0) (b := 0) (by decide +kernel) (by decide +kernel)) (by decide +kernel)
          obtain ⟨d_17_1_0, d_17_1_1⟩ := g_14_1.resolve_left c_17
          have f_38_5 : iR (f0 j2_L3.toNatClampNeg) 0 11 := iR_ltL d_17_1_1 f_13_3 (show iR (f18 (i 13).toNatClampNeg) 0 12 from hf18 _) (by decide +kernel)
          have f_38_6 : iR (f18 (i 13).toNatClampNeg) 1 12 := iR_ltR d_17_1_1 f_13_3 (show iR (f18 (i 13).toNatClampNeg) 0 12 from hf18 _) (by decide +kernel)
          obtain ⟨y_38p17, ey_38p17⟩ : ∃ y : Int32, y = j2_L3 + 1 := ⟨_, rfl⟩
          refine lv_iinc (v := y_38p17) (lv' := [(3, .int y_38p17), (0, .ref h), (1, .int x1), (2, .int 1)]) hx hb dX7_areWishes_38 hl (k := 3) rfl ey_38p17.symm (by decide) rfl (fun ls hl => ?_)
          have f_38p17_7 : iR y_38p17 1 1600 := iR_add ey_38p17 f_7_1 (iR_c (n := 1) (a := 1) (b := 1) (by decide +kernel) (by decide +kernel)) (by decide +kernel)
          refine lv_goto (tgt := 2) hx hb dX7_areWishes_41 (by decide) ?_
          exact ih_2 y_38p17 (iR_w f_38p17_7 (by decide +kernel)) (show AW f0 (f18 (i 13).toNatClampNeg) y_38p17 1 from (AW_step p2_0 ey_38p17 f_7_1 (by decide +kernel) (Or.inl ⟨d_17_1_0, d_17_1_1⟩))) (m_up (B := 1600) hm_2 ey_38p17 f_7_1 (by decide +kernel)) H locs ls (hP.sub [1, 0, 2] rfl) (hD.sub [1, 0, 2] (by decide +kernel) rfl) hS (lv_sub hl [1, 2, 3, 0] rfl)
        · have c_17 : r_14 = 0 := c_17
          have f_20_4 : iR r_14 0 0 := iR_eqL c_17 g_14_0 (iR_c (n := 0) (a := 0) (b := 0) (by decide +kernel) (by decide +kernel)) (by decide +kernel)
          refine lv_iload_n hx hb dX7_areWishes_20 rfl (lv_at hl 2 rfl) ?_
          have J_36 : ∀  (k36_0 : iR (f0 j2_L3.toNatClampNeg) 0 254) (q36_0 : ¬ (f0 j2_L3.toNatClampNeg) = 255) (H : Heap) (locs : List Loc) (ls : Array Slot), va_P (dC, dI) vwCl [(h, .inr (7, oM r i j)), ((r 0), .inl (cI, 1800, .inl f0)), ((r 18), .inl (cI, 2, .inl f18))] H → va_D A [(h, .inr (7, oM r i j)), ((r 0), .inl (cI, 1800, .inl f0)), ((r 18), .inl (cI, 2, .inl f18))] → va_S A s.heap H locs → lv_has ls 4 [] → W p l e ({ frames := 2, cells := 0, slots := 0, locals := 61 }) s m args below meth c H locs 0 0 (MQ below (va_Qi (fun (r9 : Int32) (u9 : Unit) => (iR r9 0 1) ∧ ((r9 = 0) ∨ ((AW f0 (f18 (i 13).toNatClampNeg) x1 1)))) (fun u => k_B (dC, dI) vwCl (tyy cI cJ cZ cM) A ((fun (u9 : Unit) => [(h, .inr (7, oM r i j)), ((r 0), .inl (cI, 1800, .inl f0)), ((r 18), .inl (cI, 2, .inl f18))]) u)) A) args s 0 0 A) (F0 m 36 ls []) := by
            intro  k36_0 q36_0 H locs ls hP hD hS hl
            refine lv_iconst (v := 0) hx hb dX7_areWishes_36 (by decide +kernel) ?_
            exact k_ri B hP hD hS dX7_areWishes_37 () [0, 1, 2] rfl rfl rfl (Nat.le_of_ble_eq_true rfl) (Nat.le_of_ble_eq_true rfl) ⟨(show iR 0 0 1 from (iR_c (n := 0) (a := 0) (b := 1) (by decide +kernel) (by decide +kernel))), (show (0 = 0) ∨ ((AW f0 (f18 (i 13).toNatClampNeg) x1 1)) from (Or.inl rfl))⟩
          refine lv_if_eq (tgt := 36) hx hb dX7_areWishes_21 (by decide) (fun q9 => absurd q9 (by decide +kernel)) (fun _ => ?_)
          refine lv_aload_n hx hb dX7_areWishes_24 rfl (lv_at hl 0 rfl) ?_
          refine k_get (D := (dC, dI)) (ci := 7) (v := .ref (r 0)) (C := RX7) (T := TX7) (N := 92) hx hb hts hinX7 hown hK hP 1 rfl rfl 0 (by decide) w_0 rfl rfl dX7_areWishes_25 ?_
          refine lv_iload_n hx hb dX7_areWishes_28 rfl (lv_at hl 3 rfl) ?_
          refine va_iald hx hb hK hP 0 0 rfl rfl (iR_vp f_7_1 (by decide +kernel)) dX7_areWishes_29 ?_
          refine lv_sipush (v := 255) hx hb dX7_areWishes_30 (by decide +kernel) ?_
          refine lv_icmp_eq (tgt := 38) hx hb dX7_areWishes_33 (by decide) (fun c_33 => ?_) (fun c_33 => ?_)
          · have c_33 : (f0 j2_L3.toNatClampNeg) = 255 := c_33
            have f_38_5 : iR (f0 j2_L3.toNatClampNeg) 255 255 := iR_eqL c_33 f_13_3 (iR_c (n := 255) (a := 255) (b := 255) (by decide +kernel) (by decide +kernel)) (by decide +kernel)
            obtain ⟨y_38p33, ey_38p33⟩ : ∃ y : Int32, y = j2_L3 + 1 := ⟨_, rfl⟩
            refine lv_iinc (v := y_38p33) (lv' := [(3, .int y_38p33), (0, .ref h), (1, .int x1), (2, .int 1)]) hx hb dX7_areWishes_38 hl (k := 3) rfl ey_38p33.symm (by decide) rfl (fun ls hl => ?_)
            have f_38p33_6 : iR y_38p33 1 1600 := iR_add ey_38p33 f_7_1 (iR_c (n := 1) (a := 1) (b := 1) (by decide +kernel) (by decide +kernel)) (by decide +kernel)
            refine lv_goto (tgt := 2) hx hb dX7_areWishes_41 (by decide) ?_
            exact ih_2 y_38p33 (iR_w f_38p33_6 (by decide +kernel)) (show AW f0 (f18 (i 13).toNatClampNeg) y_38p33 1 from (AW_step p2_0 ey_38p33 f_7_1 (by decide +kernel) (Or.inr ⟨by decide, c_33⟩))) (m_up (B := 1600) hm_2 ey_38p33 f_7_1 (by decide +kernel)) H locs ls (hP.sub [1, 0, 2] rfl) (hD.sub [1, 0, 2] (by decide +kernel) rfl) hS (lv_sub hl [1, 2, 3, 0] rfl)
          · have c_33 : ¬ (f0 j2_L3.toNatClampNeg) = 255 := c_33
            have f_36_5 : iR (f0 j2_L3.toNatClampNeg) 0 254 := iR_neL c_33 f_13_3 (iR_c (n := 255) (a := 255) (b := 255) (by decide +kernel) (by decide +kernel)) (by decide +kernel)
            exact J_36  f_36_5 c_33 H locs ls (hP.sub [1, 0, 2] rfl) (hD.sub [1, 0, 2] (by decide +kernel) rfl) hS (lv_sub hl [] rfl)
  refine lv_istore_n (lv' := [(3, .int 0), (0, .ref h), (1, .int x1), (2, .int 1)]) hx hb dX7_areWishes_1 rfl hl (by decide) rfl (fun ls hl => ?_)
  exact J_2 _ 0 (iR_c (n := 0) (a := 0) (b := 1600) (by decide +kernel) (by decide +kernel)) (show AW f0 (f18 (i 13).toNatClampNeg) 0 1 from AW_0) (Nat.lt_succ_self _) H locs ls hP hD hS (lv_sub hl [1, 2, 3, 0] rfl)
set_option maxHeartbeats 8000000 in
set_option maxRecDepth 100000 in
theorem s_X7_remembers_v0 (l : Launch) (dC : Nat → ClassId) (dI : Nat → Nat → Nat) (cI cJ cZ cM : ClassId) (h : Nat) (r : Nat → Nat) (i : Nat → Int32) (j : Nat → Int64) (x1 : Int32) (f49 : Nat → Int32) (f50 : Nat → Int32) (f52 : Nat → Int32) (hI : mR i) (hf49 : aR f49 0 1023) (hf50 : aR f50 0 999) : k_Mv l yX7_remembers wsX7_remembers ({ frames := 1, cells := 0, slots := 0, locals := 40 }) (dC, dI) vwCl (tyy cI cJ cZ cM) [(h, .inr (7, oM r i j)), ((r 49), .inl (cI, 22, .inl f49)), ((r 50), .inl (cI, 22, .inl f50)), ((r 52), .inl (cI, 22, .inl f52))] [.ref h, .int x1] 0 0 (fun (u9 : SU) => [(h, .inr (7, oM r (upd (upd (upd (upd (upd i 67 x1) 68 (f49 1)) 69 (f50 1)) 70 (f52 1)) 71 (u9.1 0)) j)), ((r 49), .inl (cI, 22, .inl f49)), ((r 50), .inl (cI, 22, .inl f50)), ((r 52), .inl (cI, 22, .inl f52))]) (fun (u9 : SU) => (iR (u9.1 0) 0 2147483647)) := by
  refine fun sz => k_enter (cc := cX7_remembers) (maxL := 2) (ret := none) (Qc := fun A => va_Qv (fun (u9 : SU) => (iR (u9.1 0) 0 2147483647)) (fun u => k_B (dC, dI) vwCl (tyy cI cJ cZ cM) A ((fun (u9 : SU) => [(h, .inr (7, oM r (upd (upd (upd (upd (upd i 67 x1) 68 (f49 1)) 69 (f50 1)) 70 (f52 1)) 71 (u9.1 0)) j)), ((r 49), .inl (cI, 22, .inl f49)), ((r 50), .inl (cI, 22, .inl f50)), ((r 52), .inl (cI, 22, .inl f52))]) u)) A) sz (by decide +kernel) rfl (Nat.le_of_ble_eq_true rfl) (fun p e s m args below meth c A ls H locs B hP hD hS hl => ?_)
  obtain ⟨hx, hb, hml, hown, hts, hr, hlk, hnm, hK, hA, hN, hC⟩ := id B
  have hown : s.vm.findClass RX7 = some m.cls := hown
  have hl : lv_has ls 2 [(0, .ref h), (1, .int x1)] := hl
  have w_0 : (Cond.fieldLink RX7 216 "WishSeaModel" "wentEnd" "I").before args s = true := hts _ (List.mem_of_getElem? (i := 1) rfl)
  have w_1 : (Cond.fieldLink RX7 162 "WishSeaModel" "hadOf" "[I").before args s = true := hts _ (List.mem_of_getElem? (i := 2) rfl)
  have w_2 : (Cond.fieldLink RX7 219 "WishSeaModel" "wentHad" "I").before args s = true := hts _ (List.mem_of_getElem? (i := 3) rfl)
  have w_3 : (Cond.fieldLink RX7 165 "WishSeaModel" "seaOf" "[I").before args s = true := hts _ (List.mem_of_getElem? (i := 4) rfl)
  have w_4 : (Cond.fieldLink RX7 222 "WishSeaModel" "wentSea" "I").before args s = true := hts _ (List.mem_of_getElem? (i := 5) rfl)
  have w_5 : (Cond.fieldLink RX7 171 "WishSeaModel" "dayOf" "[I").before args s = true := hts _ (List.mem_of_getElem? (i := 6) rfl)
  have w_6 : (Cond.fieldLink RX7 225 "WishSeaModel" "wentDay" "I").before args s = true := hts _ (List.mem_of_getElem? (i := 7) rfl)
  have w_7 : (Cond.fieldLink RX7 228 "WishSeaModel" "wentMost" "I").before args s = true := hts _ (List.mem_of_getElem? (i := 8) rfl)
  have hinX7 : ∀ w ∈ u_ws RX7 TX7 92, w ∈ wsX7_remembers := fun _ h => List.mem_cons_of_mem _ (List.mem_append_right _ h)
  refine lv_aload_n hx hb dX7_remembers_0 rfl (lv_at hl 0 rfl) ?_
  refine lv_iload_n hx hb dX7_remembers_1 rfl (lv_at hl 1 rfl) ?_
  refine k_put (D := (dC, dI)) (ci := 7) (v := .int x1) (C := RX7) (T := TX7) (N := 92) (ws' := [(h, .inr (7, oM r (upd i 67 x1) j)), ((r 49), .inl (cI, 22, .inl f49)), ((r 50), .inl (cI, 22, .inl f50)), ((r 52), .inl (cI, 22, .inl f52))]) hx hb hts hinX7 tyX7 tyX7_ok nmX7 hown hK hP hD hS 0 rfl rfl 67 (by decide) w_0 rfl rfl rfl rfl (Nat.le_of_ble_eq_true rfl) rfl dX7_remembers_2 (fun H locs hP hD hS => ?_)
  refine lv_aload_n hx hb dX7_remembers_5 rfl (lv_at hl 0 rfl) ?_
  refine lv_aload_n hx hb dX7_remembers_6 rfl (lv_at hl 0 rfl) ?_
  refine k_get (D := (dC, dI)) (ci := 7) (v := .ref (r 49)) (C := RX7) (T := TX7) (N := 92) hx hb hts hinX7 hown hK hP 0 rfl rfl 49 (by decide) w_1 rfl rfl dX7_remembers_7 ?_
  refine lv_iconst (v := 1) hx hb dX7_remembers_10 (by decide +kernel) ?_
  refine k_iald (v := (f49 1)) hx hb hK hP 1 0 1 rfl rfl rfl (Nat.le_of_ble_eq_true rfl) (Nat.le_of_ble_eq_true rfl) rfl dX7_remembers_11 ?_
  have f_11_1 : iR (f49 1) 0 1023 := hf49 _
  refine k_put (D := (dC, dI)) (ci := 7) (v := .int (f49 1)) (C := RX7) (T := TX7) (N := 92) (ws' := [(h, .inr (7, oM r (upd (upd i 67 x1) 68 (f49 1)) j)), ((r 49), .inl (cI, 22, .inl f49)), ((r 50), .inl (cI, 22, .inl f50)), ((r 52), .inl (cI, 22, .inl f52))]) hx hb hts hinX7 tyX7 tyX7_ok nmX7 hown hK hP hD hS 0 rfl rfl 68 (by decide) w_2 rfl rfl rfl rfl (Nat.le_of_ble_eq_true rfl) rfl dX7_remembers_12 (fun H locs hP hD hS => ?_)
  refine lv_aload_n hx hb dX7_remembers_15 rfl (lv_at hl 0 rfl) ?_
  refine lv_aload_n hx hb dX7_remembers_16 rfl (lv_at hl 0 rfl) ?_
  refine k_get (D := (dC, dI)) (ci := 7) (v := .ref (r 50)) (C := RX7) (T := TX7) (N := 92) hx hb hts hinX7 hown hK hP 0 rfl rfl 50 (by decide) w_3 rfl rfl dX7_remembers_17 ?_
  refine lv_iconst (v := 1) hx hb dX7_remembers_20 (by decide +kernel) ?_
  refine k_iald (v := (f50 1)) hx hb hK hP 2 0 1 rfl rfl rfl (Nat.le_of_ble_eq_true rfl) (Nat.le_of_ble_eq_true rfl) rfl dX7_remembers_21 ?_
  have f_21_2 : iR (f50 1) 0 999 := hf50 _
  refine k_put (D := (dC, dI)) (ci := 7) (v := .int (f50 1)) (C := RX7) (T := TX7) (N := 92) (ws' := [(h, .inr (7, oM r (upd (upd (upd i 67 x1) 68 (f49 1)) 69 (f50 1)) j)), ((r 49), .inl (cI, 22, .inl f49)), ((r 50), .inl (cI, 22, .inl f50)), ((r 52), .inl (cI, 22, .inl f52))]) hx hb hts hinX7 tyX7 tyX7_ok nmX7 hown hK hP hD hS 0 rfl rfl 69 (by decide) w_4 rfl rfl rfl rfl (Nat.le_of_ble_eq_true rfl) rfl dX7_remembers_22 (fun H locs hP hD hS => ?_)
  refine lv_aload_n hx hb dX7_remembers_25 rfl (lv_at hl 0 rfl) ?_
  refine lv_aload_n hx hb dX7_remembers_26 rfl (lv_at hl 0 rfl) ?_
  refine k_get (D := (dC, dI)) (ci := 7) (v := .ref (r 52)) (C := RX7) (T := TX7) (N := 92) hx hb hts hinX7 hown hK hP 0 rfl rfl 52 (by decide) w_5 rfl rfl dX7_remembers_27 ?_
  refine lv_iconst (v := 1) hx hb dX7_remembers_30 (by decide +kernel) ?_
  refine k_iald (v := (f52 1)) hx hb hK hP 3 0 1 rfl rfl rfl (Nat.le_of_ble_eq_true rfl) (Nat.le_of_ble_eq_true rfl) rfl dX7_remembers_31 ?_
  refine k_put (D := (dC, dI)) (ci := 7) (v := .int (f52 1)) (C := RX7) (T := TX7) (N := 92) (ws' := [(h, .inr (7, oM r (upd (upd (upd (upd i 67 x1) 68 (f49 1)) 69 (f50 1)) 70 (f52 1)) j)), ((r 49), .inl (cI, 22, .inl f49)), ((r 50), .inl (cI, 22, .inl f50)), ((r 52), .inl (cI, 22, .inl f52))]) hx hb hts hinX7 tyX7 tyX7_ok nmX7 hown hK hP hD hS 0 rfl rfl 70 (by decide) w_6 rfl rfl rfl rfl (Nat.le_of_ble_eq_true rfl) rfl dX7_remembers_32 (fun H locs hP hD hS => ?_)
  refine lv_aload_n hx hb dX7_remembers_35 rfl (lv_at hl 0 rfl) ?_
  refine lv_aload_n hx hb dX7_remembers_36 rfl (lv_at hl 0 rfl) ?_
  refine k_get (D := (dC, dI)) (ci := 7) (v := .int (f50 1)) (C := RX7) (T := TX7) (N := 92) hx hb hts hinX7 hown hK hP 0 rfl rfl 69 (by decide) w_4 rfl rfl dX7_remembers_37 ?_
  refine lv_aload_n hx hb dX7_remembers_40 rfl (lv_at hl 0 rfl) ?_
  refine k_get (D := (dC, dI)) (ci := 7) (v := .int (i 71)) (C := RX7) (T := TX7) (N := 92) hx hb hts hinX7 hown hK hP 0 rfl rfl 71 (by decide) w_7 rfl rfl dX7_remembers_41 ?_
  have J_58 : ∀ (j58_S0 : Int32) (hj58_S0 : iR j58_S0 0 2147483647) (H : Heap) (locs : List Loc) (ls : Array Slot), va_P (dC, dI) vwCl [(h, .inr (7, oM r (upd (upd (upd (upd i 67 x1) 68 (f49 1)) 69 (f50 1)) 70 (f52 1)) j)), ((r 49), .inl (cI, 22, .inl f49)), ((r 50), .inl (cI, 22, .inl f50)), ((r 52), .inl (cI, 22, .inl f52))] H → va_D A [(h, .inr (7, oM r (upd (upd (upd (upd i 67 x1) 68 (f49 1)) 69 (f50 1)) 70 (f52 1)) j)), ((r 49), .inl (cI, 22, .inl f49)), ((r 50), .inl (cI, 22, .inl f50)), ((r 52), .inl (cI, 22, .inl f52))] → va_S A s.heap H locs → lv_has ls 2 [] → W p l e ({ frames := 1, cells := 0, slots := 0, locals := 40 }) s m args below meth c H locs 0 0 (MQ below (va_Qv (fun (u9 : SU) => (iR (u9.1 0) 0 2147483647)) (fun u => k_B (dC, dI) vwCl (tyy cI cJ cZ cM) A ((fun (u9 : SU) => [(h, .inr (7, oM r (upd (upd (upd (upd (upd i 67 x1) 68 (f49 1)) 69 (f50 1)) 70 (f52 1)) 71 (u9.1 0)) j)), ((r 49), .inl (cI, 22, .inl f49)), ((r 50), .inl (cI, 22, .inl f50)), ((r 52), .inl (cI, 22, .inl f52))]) u)) A) args s 0 0 A) (F0 m 58 ls [.int j58_S0, .ref h]) := by
    intro j58_S0 hj58_S0 H locs ls hP hD hS hl
    refine k_put (D := (dC, dI)) (ci := 7) (v := .int j58_S0) (C := RX7) (T := TX7) (N := 92) (ws' := [(h, .inr (7, oM r (upd (upd (upd (upd (upd i 67 x1) 68 (f49 1)) 69 (f50 1)) 70 (f52 1)) 71 j58_S0) j)), ((r 49), .inl (cI, 22, .inl f49)), ((r 50), .inl (cI, 22, .inl f50)), ((r 52), .inl (cI, 22, .inl f52))]) hx hb hts hinX7 tyX7 tyX7_ok nmX7 hown hK hP hD hS 0 rfl rfl 71 (by decide) w_7 rfl rfl rfl rfl (Nat.le_of_ble_eq_true rfl) rfl dX7_remembers_58 (fun H locs hP hD hS => ?_)
    exact k_rv B hP hD hS dX7_remembers_61 ((fun k9 => match k9 with | 0 => j58_S0 | _ => 0), (fun _ => 0), (fun _ => (fun _ => 0)), (fun _ => (fun _ => 0)), (fun _ => 0)) [0, 1, 2, 3] rfl rfl (Nat.le_of_ble_eq_true rfl) (Nat.le_of_ble_eq_true rfl) (show iR j58_S0 0 2147483647 from hj58_S0)
  refine lv_icmp_le (tgt := 54) hx hb dX7_remembers_44 (by decide) (fun c_44 => ?_) (fun c_44 => ?_)
  · have c_44 : (f50 1) ≤ (i 71) := c_44
    have f_54_3 : iR (i 71) 0 2147483647 := iR_leR c_44 f_21_2 (iR_top _) (by decide +kernel)
    refine lv_aload_n hx hb dX7_remembers_54 rfl (lv_at hl 0 rfl) ?_
    refine k_get (D := (dC, dI)) (ci := 7) (v := .int (i 71)) (C := RX7) (T := TX7) (N := 92) hx hb hts hinX7 hown hK hP 0 rfl rfl 71 (by decide) w_7 rfl rfl dX7_remembers_55 ?_
    exact J_58 (i 71) f_54_3 H locs ls hP hD hS (lv_sub hl [] rfl)
  · have c_44 : (i 71) < (f50 1) := i_nle c_44
    have f_47_3 : iR (i 71) (-2147483648) 998 := iR_ltL c_44 (iR_top _) f_21_2 (by decide +kernel)
    refine lv_aload_n hx hb dX7_remembers_47 rfl (lv_at hl 0 rfl) ?_
    refine k_get (D := (dC, dI)) (ci := 7) (v := .int (f50 1)) (C := RX7) (T := TX7) (N := 92) hx hb hts hinX7 hown hK hP 0 rfl rfl 69 (by decide) w_4 rfl rfl dX7_remembers_48 ?_
    refine lv_goto (tgt := 58) hx hb dX7_remembers_51 (by decide) ?_
    exact J_58 (f50 1) (iR_w f_21_2 (by decide +kernel)) H locs ls hP hD hS (lv_sub hl [] rfl)
set_option maxHeartbeats 8000000 in
set_option maxRecDepth 100000 in
theorem s_X7_went_v0 (l : Launch) (dC : Nat → ClassId) (dI : Nat → Nat → Nat) (cI cJ cZ cM : ClassId) (h : Nat) (r : Nat → Nat) (i : Nat → Int32) (j : Nat → Int64) (x1 : Int32) (hI : mR i) : k_Mi l yX7_went wsX7_went ({ frames := 1, cells := 0, slots := 0, locals := 40 }) (dC, dI) vwCl (tyy cI cJ cZ cM) [(h, .inr (7, oM r i j))] [.ref h, .int x1] 0 0 (fun (u9 : Unit) => [(h, .inr (7, oM r i j))]) (fun (r9 : Int32) (u9 : Unit) => True) := by
  refine fun sz => k_enter (cc := cX7_went) (maxL := 2) (ret := some (.int)) (Qc := fun A => va_Qi (fun (r9 : Int32) (u9 : Unit) => True) (fun u => k_B (dC, dI) vwCl (tyy cI cJ cZ cM) A ((fun (u9 : Unit) => [(h, .inr (7, oM r i j))]) u)) A) sz (by decide +kernel) rfl (Nat.le_of_ble_eq_true rfl) (fun p e s m args below meth c A ls H locs B hP hD hS hl => ?_)
  obtain ⟨hx, hb, hml, hown, hts, hr, hlk, hnm, hK, hA, hN, hC⟩ := id B
  have hown : s.vm.findClass RX7 = some m.cls := hown
  have hl : lv_has ls 2 [(0, .ref h), (1, .int x1)] := hl
  have w_0 : (Cond.fieldLink RX7 216 "WishSeaModel" "wentEnd" "I").before args s = true := hts _ (List.mem_of_getElem? (i := 1) rfl)
  have w_1 : (Cond.fieldLink RX7 228 "WishSeaModel" "wentMost" "I").before args s = true := hts _ (List.mem_of_getElem? (i := 5) rfl)
  have w_2 : (Cond.fieldLink RX7 225 "WishSeaModel" "wentDay" "I").before args s = true := hts _ (List.mem_of_getElem? (i := 4) rfl)
  have w_3 : (Cond.fieldLink RX7 222 "WishSeaModel" "wentSea" "I").before args s = true := hts _ (List.mem_of_getElem? (i := 3) rfl)
  have w_4 : (Cond.fieldLink RX7 219 "WishSeaModel" "wentHad" "I").before args s = true := hts _ (List.mem_of_getElem? (i := 2) rfl)
  have hinX7 : ∀ w ∈ u_ws RX7 TX7 92, w ∈ wsX7_went := fun _ h => List.mem_cons_of_mem _ (List.mem_append_right _ h)
  refine lv_aload_n hx hb dX7_went_0 rfl (lv_at hl 0 rfl) ?_
  refine k_get (D := (dC, dI)) (ci := 7) (v := .int (i 67)) (C := RX7) (T := TX7) (N := 92) hx hb hts hinX7 hown hK hP 0 rfl rfl 67 (by decide) w_0 rfl rfl dX7_went_1 ?_
  refine lv_iconst (v := (-1)) hx hb dX7_went_4 (by decide +kernel) ?_
  refine lv_icmp_ne (tgt := 10) hx hb dX7_went_5 (by decide) (fun c_5 => ?_) (fun c_5 => ?_)
  · have c_5 : ¬ (i 67) = (-1) := c_5
    refine lv_iload_n hx hb dX7_went_10 rfl (lv_at hl 1 rfl) ?_
    refine lv_if_ne (tgt := 21) hx hb dX7_went_11 (by decide) (fun c_11 => ?_) (fun c_11 => ?_)
    · have c_11 : ¬ x1 = 0 := c_11
      refine lv_iload_n hx hb dX7_went_21 rfl (lv_at hl 1 rfl) ?_
      refine lv_iconst (v := 1) hx hb dX7_went_22 (by decide +kernel) ?_
      refine lv_icmp_ne (tgt := 33) hx hb dX7_went_23 (by decide) (fun c_23 => ?_) (fun c_23 => ?_)
      · have c_23 : ¬ x1 = 1 := c_23
        refine lv_iload_n hx hb dX7_went_33 rfl (lv_at hl 1 rfl) ?_
        refine lv_iconst (v := 2) hx hb dX7_went_34 (by decide +kernel) ?_
        refine lv_icmp_ne (tgt := 45) hx hb dX7_went_35 (by decide) (fun c_35 => ?_) (fun c_35 => ?_)
        · have c_35 : ¬ x1 = 2 := c_35
          refine lv_iload_n hx hb dX7_went_45 rfl (lv_at hl 1 rfl) ?_
          refine lv_iconst (v := 3) hx hb dX7_went_46 (by decide +kernel) ?_
          refine lv_icmp_ne (tgt := 57) hx hb dX7_went_47 (by decide) (fun c_47 => ?_) (fun c_47 => ?_)
          · have c_47 : ¬ x1 = 3 := c_47
            refine lv_iload_n hx hb dX7_went_57 rfl (lv_at hl 1 rfl) ?_
            refine lv_iconst (v := 4) hx hb dX7_went_58 (by decide +kernel) ?_
            refine lv_icmp_ne (tgt := 69) hx hb dX7_went_59 (by decide) (fun c_59 => ?_) (fun c_59 => ?_)
            · have c_59 : ¬ x1 = 4 := c_59
              refine lv_iconst (v := (-1)) hx hb dX7_went_69 (by decide +kernel) ?_
              exact k_ri B hP hD hS dX7_went_70 () [0] rfl rfl rfl (Nat.le_of_ble_eq_true rfl) (Nat.le_of_ble_eq_true rfl) trivial
            · have c_59 : x1 = 4 := c_59
              have f_62_1 : iR x1 4 4 := iR_eqL c_59 (iR_top _) (iR_c (n := 4) (a := 4) (b := 4) (by decide +kernel) (by decide +kernel)) (by decide +kernel)
              refine lv_aload_n hx hb dX7_went_62 rfl (lv_at hl 0 rfl) ?_
              refine k_get (D := (dC, dI)) (ci := 7) (v := .int (i 71)) (C := RX7) (T := TX7) (N := 92) hx hb hts hinX7 hown hK hP 0 rfl rfl 71 (by decide) w_1 rfl rfl dX7_went_63 ?_
              refine lv_goto (tgt := 70) hx hb dX7_went_66 (by decide) ?_
              exact k_ri B hP hD hS dX7_went_70 () [0] rfl rfl rfl (Nat.le_of_ble_eq_true rfl) (Nat.le_of_ble_eq_true rfl) trivial
          · have c_47 : x1 = 3 := c_47
            have f_50_1 : iR x1 3 3 := iR_eqL c_47 (iR_top _) (iR_c (n := 3) (a := 3) (b := 3) (by decide +kernel) (by decide +kernel)) (by decide +kernel)
            refine lv_aload_n hx hb dX7_went_50 rfl (lv_at hl 0 rfl) ?_
            refine k_get (D := (dC, dI)) (ci := 7) (v := .int (i 70)) (C := RX7) (T := TX7) (N := 92) hx hb hts hinX7 hown hK hP 0 rfl rfl 70 (by decide) w_2 rfl rfl dX7_went_51 ?_
            refine lv_goto (tgt := 70) hx hb dX7_went_54 (by decide) ?_
            exact k_ri B hP hD hS dX7_went_70 () [0] rfl rfl rfl (Nat.le_of_ble_eq_true rfl) (Nat.le_of_ble_eq_true rfl) trivial
        · have c_35 : x1 = 2 := c_35
          have f_38_1 : iR x1 2 2 := iR_eqL c_35 (iR_top _) (iR_c (n := 2) (a := 2) (b := 2) (by decide +kernel) (by decide +kernel)) (by decide +kernel)
          refine lv_aload_n hx hb dX7_went_38 rfl (lv_at hl 0 rfl) ?_
          refine k_get (D := (dC, dI)) (ci := 7) (v := .int (i 69)) (C := RX7) (T := TX7) (N := 92) hx hb hts hinX7 hown hK hP 0 rfl rfl 69 (by decide) w_3 rfl rfl dX7_went_39 ?_
          refine lv_goto (tgt := 70) hx hb dX7_went_42 (by decide) ?_
          exact k_ri B hP hD hS dX7_went_70 () [0] rfl rfl rfl (Nat.le_of_ble_eq_true rfl) (Nat.le_of_ble_eq_true rfl) trivial
      · have c_23 : x1 = 1 := c_23
        have f_26_1 : iR x1 1 1 := iR_eqL c_23 (iR_top _) (iR_c (n := 1) (a := 1) (b := 1) (by decide +kernel) (by decide +kernel)) (by decide +kernel)
        refine lv_aload_n hx hb dX7_went_26 rfl (lv_at hl 0 rfl) ?_
        refine k_get (D := (dC, dI)) (ci := 7) (v := .int (i 68)) (C := RX7) (T := TX7) (N := 92) hx hb hts hinX7 hown hK hP 0 rfl rfl 68 (by decide) w_4 rfl rfl dX7_went_27 ?_
        refine lv_goto (tgt := 70) hx hb dX7_went_30 (by decide) ?_
        exact k_ri B hP hD hS dX7_went_70 () [0] rfl rfl rfl (Nat.le_of_ble_eq_true rfl) (Nat.le_of_ble_eq_true rfl) trivial
    · have c_11 : x1 = 0 := c_11
      have f_14_1 : iR x1 0 0 := iR_eqL c_11 (iR_top _) (iR_c (n := 0) (a := 0) (b := 0) (by decide +kernel) (by decide +kernel)) (by decide +kernel)
      refine lv_aload_n hx hb dX7_went_14 rfl (lv_at hl 0 rfl) ?_
      refine k_get (D := (dC, dI)) (ci := 7) (v := .int (i 67)) (C := RX7) (T := TX7) (N := 92) hx hb hts hinX7 hown hK hP 0 rfl rfl 67 (by decide) w_0 rfl rfl dX7_went_15 ?_
      refine lv_goto (tgt := 70) hx hb dX7_went_18 (by decide) ?_
      exact k_ri B hP hD hS dX7_went_70 () [0] rfl rfl rfl (Nat.le_of_ble_eq_true rfl) (Nat.le_of_ble_eq_true rfl) trivial
  · have c_5 : (i 67) = (-1) := c_5
    have f_8_1 : iR (i 67) (-1) (-1) := iR_eqL c_5 (iR_top _) (iR_c (n := (-1)) (a := (-1)) (b := (-1)) (by decide +kernel) (by decide +kernel)) (by decide +kernel)
    refine lv_iconst (v := (-1)) hx hb dX7_went_8 (by decide +kernel) ?_
    exact k_ri B hP hD hS dX7_went_9 () [0] rfl rfl rfl (Nat.le_of_ble_eq_true rfl) (Nat.le_of_ble_eq_true rfl) trivial
set_option maxHeartbeats 8000000 in
set_option maxRecDepth 100000 in
theorem s_X7_falls_v0 (l : Launch) (dC : Nat → ClassId) (dI : Nat → Nat → Nat) (cI cJ cZ cM : ClassId) (h : Nat) (r : Nat → Nat) (i : Nat → Int32) (j : Nat → Int64) (f0 : Nat → Int32) (f48 : Nat → Int32) (f78 : Nat → Int32) (f79 : Nat → Int32) (hI : mR i) (hf0 : aR f0 0 255) : k_Mi l yX7_falls wsX7_falls ({ frames := 2, cells := 0, slots := 0, locals := 61 }) (dC, dI) vwCl (tyy cI cJ cZ cM) [(h, .inr (7, oM r i j)), ((r 0), .inl (cI, 1800, .inl f0)), ((r 48), .inl (cI, 6, .inl f48)), ((r 78), .inl (cI, 20, .inl f78)), ((r 79), .inl (cI, 20, .inl f79))] [.ref h] 0 0 (fun (u9 : SU) => [(h, .inr (7, oM r (upd (upd i 1 0) 77 (u9.1 0)) j)), ((r 0), .inl (cI, 1800, .inl f0)), ((r 48), .inl (cI, 6, .inl (u9.2.2.1 0))), ((r 78), .inl (cI, 20, .inl (u9.2.2.1 1))), ((r 79), .inl (cI, 20, .inl (u9.2.2.1 2)))]) (fun (r9 : Int32) (u9 : SU) => (iR r9 (-1) 20) ∧ (iR (u9.1 0) 0 20)) := by
  refine fun sz => k_enter (cc := cX7_falls) (maxL := 4) (ret := some (.int)) (Qc := fun A => va_Qi (fun (r9 : Int32) (u9 : SU) => (iR r9 (-1) 20) ∧ (iR (u9.1 0) 0 20)) (fun u => k_B (dC, dI) vwCl (tyy cI cJ cZ cM) A ((fun (u9 : SU) => [(h, .inr (7, oM r (upd (upd i 1 0) 77 (u9.1 0)) j)), ((r 0), .inl (cI, 1800, .inl f0)), ((r 48), .inl (cI, 6, .inl (u9.2.2.1 0))), ((r 78), .inl (cI, 20, .inl (u9.2.2.1 1))), ((r 79), .inl (cI, 20, .inl (u9.2.2.1 2)))]) u)) A) sz (by decide +kernel) rfl (Nat.le_of_ble_eq_true rfl) (fun p e s m args below meth c A ls H locs B hP hD hS hl => ?_)
  obtain ⟨hx, hb, hml, hown, hts, hr, hlk, hnm, hK, hA, hN, hC⟩ := id B
  have hown : s.vm.findClass RX7 = some m.cls := hown
  have hl : lv_has ls 4 [(0, .ref h)] := hl
  have w_0 : (Cond.fieldLink RX7 13 "WishSeaModel" "taped" "I").before args s = true := hts _ (List.mem_of_getElem? (i := 1) rfl)
  have w_1 : (Cond.fieldLink RX7 246 "WishSeaModel" "fallMany" "I").before args s = true := hts _ (List.mem_of_getElem? (i := 3) rfl)
  have w_2 : (Cond.fieldLink RX7 249 "WishSeaModel" "fallDark" "[I").before args s = true := hts _ (List.mem_of_getElem? (i := 4) rfl)
  have w_3 : (Cond.fieldLink RX7 7 "WishSeaModel" "tape" "[I").before args s = true := hts _ (List.mem_of_getElem? (i := 2) rfl)
  have w_4 : (Cond.fieldLink RX7 252 "WishSeaModel" "fallIs" "[I").before args s = true := hts _ (List.mem_of_getElem? (i := 5) rfl)
  have hinX7 : ∀ w ∈ u_ws RX7 TX7 92, w ∈ wsX7_falls := fun _ h => List.mem_cons_of_mem _ (List.mem_append_right _ h)
  refine lv_aload_n hx hb dX7_falls_0 rfl (lv_at hl 0 rfl) ?_
  have f_1_1 : iR (i 1) 0 1600 := hI 1
  refine k_get (D := (dC, dI)) (ci := 7) (v := .int (i 1)) (C := RX7) (T := TX7) (N := 92) hx hb hts hinX7 hown hK hP 0 rfl rfl 1 (by decide) w_0 rfl rfl dX7_falls_1 ?_
  refine lv_istore_n (lv' := [(1, .int (i 1)), (0, .ref h)]) hx hb dX7_falls_4 rfl hl (by decide) rfl (fun ls hl => ?_)
  refine lv_aload_n hx hb dX7_falls_5 rfl (lv_at hl 1 rfl) ?_
  refine lv_iconst (v := 0) hx hb dX7_falls_6 (by decide +kernel) ?_
  refine k_put (D := (dC, dI)) (ci := 7) (v := .int 0) (C := RX7) (T := TX7) (N := 92) (ws' := [(h, .inr (7, oM r (upd i 1 0) j)), ((r 0), .inl (cI, 1800, .inl f0)), ((r 48), .inl (cI, 6, .inl f48)), ((r 78), .inl (cI, 20, .inl f78)), ((r 79), .inl (cI, 20, .inl f79))]) hx hb hts hinX7 tyX7 tyX7_ok nmX7 hown hK hP hD hS 0 rfl rfl 1 (by decide) w_0 rfl rfl rfl rfl (Nat.le_of_ble_eq_true rfl) rfl dX7_falls_7 (fun H locs hP hD hS => ?_)
  refine lv_iload_n hx hb dX7_falls_10 rfl (lv_at hl 0 rfl) ?_
  have J_30 : ∀   (H : Heap) (locs : List Loc) (ls : Array Slot), va_P (dC, dI) vwCl [(h, .inr (7, oM r (upd i 1 0) j)), ((r 0), .inl (cI, 1800, .inl f0)), ((r 48), .inl (cI, 6, .inl f48)), ((r 78), .inl (cI, 20, .inl f78)), ((r 79), .inl (cI, 20, .inl f79))] H → va_D A [(h, .inr (7, oM r (upd i 1 0) j)), ((r 0), .inl (cI, 1800, .inl f0)), ((r 48), .inl (cI, 6, .inl f48)), ((r 78), .inl (cI, 20, .inl f78)), ((r 79), .inl (cI, 20, .inl f79))] → va_S A s.heap H locs → lv_has ls 4 [(0, .ref h), (1, .int (i 1))] → W p l e ({ frames := 2, cells := 0, slots := 0, locals := 61 }) s m args below meth c H locs 0 0 (MQ below (va_Qi (fun (r9 : Int32) (u9 : SU) => (iR r9 (-1) 20) ∧ (iR (u9.1 0) 0 20)) (fun u => k_B (dC, dI) vwCl (tyy cI cJ cZ cM) A ((fun (u9 : SU) => [(h, .inr (7, oM r (upd (upd i 1 0) 77 (u9.1 0)) j)), ((r 0), .inl (cI, 1800, .inl f0)), ((r 48), .inl (cI, 6, .inl (u9.2.2.1 0))), ((r 78), .inl (cI, 20, .inl (u9.2.2.1 1))), ((r 79), .inl (cI, 20, .inl (u9.2.2.1 2)))]) u)) A) args s 0 0 A) (F0 m 30 ls []) := by
    intro   H locs ls hP hD hS hl
    refine lv_iconst (v := 0) hx hb dX7_falls_30 (by decide +kernel) ?_
    refine lv_istore_n (lv' := [(2, .int 0), (0, .ref h), (1, .int (i 1))]) hx hb dX7_falls_31 rfl hl (by decide) rfl (fun ls hl => ?_)
    refine lv_iconst (v := 2) hx hb dX7_falls_32 (by decide +kernel) ?_
    have J_34p30 : ∀ (n_34p30 : Nat)   (hm_34p30 : 0 < n_34p30) (H : Heap) (locs : List Loc) (ls : Array Slot), va_P (dC, dI) vwCl [(h, .inr (7, oM r (upd i 1 0) j)), ((r 0), .inl (cI, 1800, .inl f0)), ((r 48), .inl (cI, 6, .inl f48)), ((r 78), .inl (cI, 20, .inl f78)), ((r 79), .inl (cI, 20, .inl f79))] H → va_D A [(h, .inr (7, oM r (upd i 1 0) j)), ((r 0), .inl (cI, 1800, .inl f0)), ((r 48), .inl (cI, 6, .inl f48)), ((r 78), .inl (cI, 20, .inl f78)), ((r 79), .inl (cI, 20, .inl f79))] → va_S A s.heap H locs → lv_has ls 4 [(0, .ref h), (1, .int (i 1)), (2, .int 0), (3, .int 2)] → W p l e ({ frames := 2, cells := 0, slots := 0, locals := 61 }) s m args below meth c H locs 0 0 (MQ below (va_Qi (fun (r9 : Int32) (u9 : SU) => (iR r9 (-1) 20) ∧ (iR (u9.1 0) 0 20)) (fun u => k_B (dC, dI) vwCl (tyy cI cJ cZ cM) A ((fun (u9 : SU) => [(h, .inr (7, oM r (upd (upd i 1 0) 77 (u9.1 0)) j)), ((r 0), .inl (cI, 1800, .inl f0)), ((r 48), .inl (cI, 6, .inl (u9.2.2.1 0))), ((r 78), .inl (cI, 20, .inl (u9.2.2.1 1))), ((r 79), .inl (cI, 20, .inl (u9.2.2.1 2)))]) u)) A) args s 0 0 A) (F0 m 34 ls []) := by
      intro n_34p30
      induction n_34p30 with
      | zero => intro   hm_34p30; exact absurd hm_34p30 (Nat.not_lt_zero _)
      | succ n_34p30 ih_34p30 =>
        intro   hm_34p30 H locs ls hP hD hS hl
        refine lv_iload_n hx hb dX7_falls_34 rfl (lv_at hl 3 rfl) ?_
        refine lv_iload_n hx hb dX7_falls_35 rfl (lv_at hl 1 rfl) ?_
        have J_65p30 : ∀   (H : Heap) (locs : List Loc) (ls : Array Slot), va_P (dC, dI) vwCl [(h, .inr (7, oM r (upd i 1 0) j)), ((r 0), .inl (cI, 1800, .inl f0)), ((r 48), .inl (cI, 6, .inl f48)), ((r 78), .inl (cI, 20, .inl f78)), ((r 79), .inl (cI, 20, .inl f79))] H → va_D A [(h, .inr (7, oM r (upd i 1 0) j)), ((r 0), .inl (cI, 1800, .inl f0)), ((r 48), .inl (cI, 6, .inl f48)), ((r 78), .inl (cI, 20, .inl f78)), ((r 79), .inl (cI, 20, .inl f79))] → va_S A s.heap H locs → lv_has ls 4 [(0, .ref h), (1, .int (i 1)), (2, .int 0)] → W p l e ({ frames := 2, cells := 0, slots := 0, locals := 61 }) s m args below meth c H locs 0 0 (MQ below (va_Qi (fun (r9 : Int32) (u9 : SU) => (iR r9 (-1) 20) ∧ (iR (u9.1 0) 0 20)) (fun u => k_B (dC, dI) vwCl (tyy cI cJ cZ cM) A ((fun (u9 : SU) => [(h, .inr (7, oM r (upd (upd i 1 0) 77 (u9.1 0)) j)), ((r 0), .inl (cI, 1800, .inl f0)), ((r 48), .inl (cI, 6, .inl (u9.2.2.1 0))), ((r 78), .inl (cI, 20, .inl (u9.2.2.1 1))), ((r 79), .inl (cI, 20, .inl (u9.2.2.1 2)))]) u)) A) args s 0 0 A) (F0 m 65 ls []) := by
          intro   H locs ls hP hD hS hl
          refine lv_iload_n hx hb dX7_falls_65 rfl (lv_at hl 2 rfl) ?_
          refine lv_if_ne (tgt := 75) hx hb dX7_falls_66 (by decide) (fun q9 => absurd q9 (by decide +kernel)) (fun _ => ?_)
          refine lv_aload_n hx hb dX7_falls_69 rfl (lv_at hl 0 rfl) ?_
          refine lv_iconst (v := 5) hx hb dX7_falls_70 (by decide +kernel) ?_
          refine k_ci (wc := [(h, .inr (7, oM r (upd i 1 0) j)), ((r 48), .inl (cI, 6, .inl f48))]) (wr := [((r 0), .inl (cI, 1800, .inl f0)), ((r 78), .inl (cI, 20, .inl f78)), ((r 79), .inl (cI, 20, .inl f79))]) (fun hPc hDc hFc => va_runV (As := [.int 5]) (rest := []) ⟨hx, hb, hml, hown, hts⟩ (s_X7_refuses_v0 l dC dI cI cJ cZ cM h r (upd i 1 0) j 5 f48 (iR_c (n := 5) (a := 0) (b := 5) (by decide +kernel) (by decide +kernel)) (mR_upd 1 hI (show iR _ (loI 1) (hiI 1) from (iR_c (n := 0) (a := 0) (b := 1600) (by decide +kernel) (by decide +kernel)))) H.size) (cwV 1 hts gX7_falls_X7_refuses rfl rfl rfl (by decide +kernel) ⟨(Nat.le_of_ble_eq_true rfl), (Nat.le_of_ble_eq_true rfl)⟩) (k_pV hPc hDc hK hN hC hS hFc hP (q0 := 0) (ci := 7) rfl rfl) rfl rfl hl.1 rfl (lv_room (Nat.le_of_ble_eq_true rfl)) dX7_falls_71 ⟨(Nat.le_of_ble_eq_true rfl), (Nat.le_of_ble_eq_true rfl)⟩) hP hD hS hA [0, 2] [1, 3, 4] rfl rfl rfl rfl (by decide) (fun _ => rfl) 0 0 rfl rfl (fun r_71p30 u_71p30 H locs hw hP hD hS => ?_)
          have g_71p30_0 := hw
          obtain rfl : r_71p30 = (-1) := g_71p30_0
          have hP : va_P (dC, dI) vwCl [((r 0), .inl (cI, 1800, .inl f0)), ((r 78), .inl (cI, 20, .inl f78)), ((r 79), .inl (cI, 20, .inl f79)), (h, .inr (7, oM r (upd i 1 0) j)), ((r 48), .inl (cI, 6, .inl (u_71p30.2.2.1 0)))] H := hP
          have hD : va_D A [((r 0), .inl (cI, 1800, .inl f0)), ((r 78), .inl (cI, 20, .inl f78)), ((r 79), .inl (cI, 20, .inl f79)), (h, .inr (7, oM r (upd i 1 0) j)), ((r 48), .inl (cI, 6, .inl (u_71p30.2.2.1 0)))] := hD
          exact k_ri B hP hD hS dX7_falls_74 ((fun k9 => match k9 with | 0 => (i 77) | _ => 0), (fun _ => 0), (fun k9 => match k9 with | 0 => (u_71p30.2.2.1 0) | 1 => f78 | 2 => f79 | _ => (fun _ => 0)), (fun _ => (fun _ => 0)), (fun _ => 0)) [3, 0, 4, 1, 2] rfl rfl rfl (Nat.le_of_ble_eq_true rfl) (Nat.le_of_ble_eq_true rfl) ⟨(show iR (-1) (-1) 20 from (iR_c (n := (-1)) (a := (-1)) (b := 20) (by decide +kernel) (by decide +kernel))), (show iR (i 77) 0 20 from (hI 77))⟩
        refine lv_icmp_ge (tgt := 65) hx hb dX7_falls_36 (by decide) (fun c_36p30 => ?_) (fun c_36p30 => ?_)
        · have c_36p30 : (i 1) ≤ 2 := c_36p30
          have f_65p30_1 : iR (i 1) 0 2 := iR_leL c_36p30 f_1_1 (iR_c (n := 2) (a := 2) (b := 2) (by decide +kernel) (by decide +kernel)) (by decide +kernel)
          exact J_65p30   H locs ls hP hD hS (lv_sub hl [0, 1, 2] rfl)
        · have c_36p30 : 2 < (i 1) := i_nle c_36p30
          have f_39p30_1 : iR (i 1) 3 1600 := iR_ltR c_36p30 (iR_c (n := 2) (a := 2) (b := 2) (by decide +kernel) (by decide +kernel)) f_1_1 (by decide +kernel)
          refine lv_iload_n hx hb dX7_falls_39 rfl (lv_at hl 2 rfl) ?_
          refine lv_if_eq (tgt := 65) hx hb dX7_falls_40 (by decide) (fun _ => ?_) (fun q9 => absurd q9 (by decide +kernel))
          exact J_65p30   H locs ls hP hD hS (lv_sub hl [0, 1, 2] rfl)
    refine lv_istore_n (lv' := [(3, .int 2), (2, .int 0), (0, .ref h), (1, .int (i 1))]) hx hb dX7_falls_33 rfl hl (by decide) rfl (fun ls hl => ?_)
    exact J_34p30 _   (Nat.lt_succ_self _) H locs ls hP hD hS (lv_sub hl [2, 3, 1, 0] rfl)
  refine lv_if_le (tgt := 30) hx hb dX7_falls_11 (by decide) (fun c_11 => ?_) (fun c_11 => ?_)
  · have c_11 : (i 1) ≤ 0 := c_11
    have f_30_2 : iR (i 1) 0 0 := iR_leL c_11 f_1_1 (iR_c (n := 0) (a := 0) (b := 0) (by decide +kernel) (by decide +kernel)) (by decide +kernel)
    exact J_30   H locs ls hP hD hS (lv_sub hl [1, 0] rfl)
  · have c_11 : 0 < (i 1) := i_nle c_11
    have f_14_2 : iR (i 1) 1 1600 := iR_ltR c_11 (iR_c (n := 0) (a := 0) (b := 0) (by decide +kernel) (by decide +kernel)) f_1_1 (by decide +kernel)
    refine lv_iload_n hx hb dX7_falls_14 rfl (lv_at hl 0 rfl) ?_
    refine lv_iconst (v := 3) hx hb dX7_falls_15 (by decide +kernel) ?_
    refine lv_irem hx hb dX7_falls_16 (i_nz (iR_c (n := 3) (a := 3) (b := 3) (by decide +kernel) (by decide +kernel)) (by decide +kernel)) ?_
    refine lv_topi (fun y_16 ey_16 => ?_)
    have f_16_3 : iR y_16 0 2 := iR_rem ey_16 f_14_2 (iR_c (n := 3) (a := 3) (b := 3) (by decide +kernel) (by decide +kernel)) (by decide +kernel)
    refine lv_if_ne (tgt := 30) hx hb dX7_falls_17 (by decide) (fun c_17 => ?_) (fun c_17 => ?_)
    · have c_17 : ¬ y_16 = 0 := c_17
      have f_30_4 : iR y_16 1 2 := iR_neL c_17 f_16_3 (iR_c (n := 0) (a := 0) (b := 0) (by decide +kernel) (by decide +kernel)) (by decide +kernel)
      exact J_30   H locs ls hP hD hS (lv_sub hl [1, 0] rfl)
    · have c_17 : y_16 = 0 := c_17
      have f_20_4 : iR y_16 0 0 := iR_eqL c_17 f_16_3 (iR_c (n := 0) (a := 0) (b := 0) (by decide +kernel) (by decide +kernel)) (by decide +kernel)
      refine lv_iload_n hx hb dX7_falls_20 rfl (lv_at hl 0 rfl) ?_
      refine lv_bipush (v := 60) hx hb dX7_falls_21 (by decide +kernel) ?_
      refine lv_icmp_gt (tgt := 30) hx hb dX7_falls_23 (by decide) (fun c_23 => ?_) (fun c_23 => ?_)
      · have c_23 : 60 < (i 1) := c_23
        have f_30_5 : iR (i 1) 61 1600 := iR_ltR c_23 (iR_c (n := 60) (a := 60) (b := 60) (by decide +kernel) (by decide +kernel)) f_14_2 (by decide +kernel)
        exact J_30   H locs ls hP hD hS (lv_sub hl [1, 0] rfl)
      · have c_23 : (i 1) ≤ 60 := i_nlt c_23
        have f_26_5 : iR (i 1) 1 60 := iR_leL c_23 f_14_2 (iR_c (n := 60) (a := 60) (b := 60) (by decide +kernel) (by decide +kernel)) (by decide +kernel)
        refine lv_iconst (v := 1) hx hb dX7_falls_26 (by decide +kernel) ?_
        refine lv_goto (tgt := 31) hx hb dX7_falls_27 (by decide) ?_
        refine lv_istore_n (lv' := [(2, .int 1), (1, .int (i 1)), (0, .ref h)]) hx hb dX7_falls_31 rfl hl (by decide) rfl (fun ls hl => ?_)
        refine lv_iconst (v := 2) hx hb dX7_falls_32 (by decide +kernel) ?_
        have J_34p27 : ∀ (n_34p27 : Nat) (j34p27_L2 : Int32) (j34p27_L3 : Int32) (hj34p27_L2 : iR j34p27_L2 0 1) (hj34p27_L3 : iR j34p27_L3 2 80) (hm_34p27 : (80 - j34p27_L3.toInt).toNat < n_34p27) (H : Heap) (locs : List Loc) (ls : Array Slot), va_P (dC, dI) vwCl [(h, .inr (7, oM r (upd i 1 0) j)), ((r 0), .inl (cI, 1800, .inl f0)), ((r 48), .inl (cI, 6, .inl f48)), ((r 78), .inl (cI, 20, .inl f78)), ((r 79), .inl (cI, 20, .inl f79))] H → va_D A [(h, .inr (7, oM r (upd i 1 0) j)), ((r 0), .inl (cI, 1800, .inl f0)), ((r 48), .inl (cI, 6, .inl f48)), ((r 78), .inl (cI, 20, .inl f78)), ((r 79), .inl (cI, 20, .inl f79))] → va_S A s.heap H locs → lv_has ls 4 [(0, .ref h), (1, .int (i 1)), (2, .int j34p27_L2), (3, .int j34p27_L3)] → W p l e ({ frames := 2, cells := 0, slots := 0, locals := 61 }) s m args below meth c H locs 0 0 (MQ below (va_Qi (fun (r9 : Int32) (u9 : SU) => (iR r9 (-1) 20) ∧ (iR (u9.1 0) 0 20)) (fun u => k_B (dC, dI) vwCl (tyy cI cJ cZ cM) A ((fun (u9 : SU) => [(h, .inr (7, oM r (upd (upd i 1 0) 77 (u9.1 0)) j)), ((r 0), .inl (cI, 1800, .inl f0)), ((r 48), .inl (cI, 6, .inl (u9.2.2.1 0))), ((r 78), .inl (cI, 20, .inl (u9.2.2.1 1))), ((r 79), .inl (cI, 20, .inl (u9.2.2.1 2)))]) u)) A) args s 0 0 A) (F0 m 34 ls []) := by
          intro n_34p27
          induction n_34p27 with
          | zero => intro j34p27_L2 j34p27_L3 hj34p27_L2 hj34p27_L3 hm_34p27; exact absurd hm_34p27 (Nat.not_lt_zero _)
          | succ n_34p27 ih_34p27 =>
            intro j34p27_L2 j34p27_L3 hj34p27_L2 hj34p27_L3 hm_34p27 H locs ls hP hD hS hl
            refine lv_iload_n hx hb dX7_falls_34 rfl (lv_at hl 3 rfl) ?_
            refine lv_iload_n hx hb dX7_falls_35 rfl (lv_at hl 1 rfl) ?_
            have J_65p27 : ∀   (H : Heap) (locs : List Loc) (ls : Array Slot), va_P (dC, dI) vwCl [(h, .inr (7, oM r (upd i 1 0) j)), ((r 0), .inl (cI, 1800, .inl f0)), ((r 48), .inl (cI, 6, .inl f48)), ((r 78), .inl (cI, 20, .inl f78)), ((r 79), .inl (cI, 20, .inl f79))] H → va_D A [(h, .inr (7, oM r (upd i 1 0) j)), ((r 0), .inl (cI, 1800, .inl f0)), ((r 48), .inl (cI, 6, .inl f48)), ((r 78), .inl (cI, 20, .inl f78)), ((r 79), .inl (cI, 20, .inl f79))] → va_S A s.heap H locs → lv_has ls 4 [(0, .ref h), (1, .int (i 1)), (2, .int j34p27_L2)] → W p l e ({ frames := 2, cells := 0, slots := 0, locals := 61 }) s m args below meth c H locs 0 0 (MQ below (va_Qi (fun (r9 : Int32) (u9 : SU) => (iR r9 (-1) 20) ∧ (iR (u9.1 0) 0 20)) (fun u => k_B (dC, dI) vwCl (tyy cI cJ cZ cM) A ((fun (u9 : SU) => [(h, .inr (7, oM r (upd (upd i 1 0) 77 (u9.1 0)) j)), ((r 0), .inl (cI, 1800, .inl f0)), ((r 48), .inl (cI, 6, .inl (u9.2.2.1 0))), ((r 78), .inl (cI, 20, .inl (u9.2.2.1 1))), ((r 79), .inl (cI, 20, .inl (u9.2.2.1 2)))]) u)) A) args s 0 0 A) (F0 m 65 ls []) := by
              intro   H locs ls hP hD hS hl
              refine lv_iload_n hx hb dX7_falls_65 rfl (lv_at hl 2 rfl) ?_
              refine lv_if_ne (tgt := 75) hx hb dX7_falls_66 (by decide) (fun c_66p27 => ?_) (fun c_66p27 => ?_)
              · have c_66p27 : ¬ j34p27_L2 = 0 := c_66p27
                have f_75p27_1 : iR j34p27_L2 1 1 := iR_neL c_66p27 hj34p27_L2 (iR_c (n := 0) (a := 0) (b := 0) (by decide +kernel) (by decide +kernel)) (by decide +kernel)
                refine lv_aload_n hx hb dX7_falls_75 rfl (lv_at hl 0 rfl) ?_
                refine lv_iload_n hx hb dX7_falls_76 rfl (lv_at hl 1 rfl) ?_
                refine lv_iconst (v := 3) hx hb dX7_falls_77 (by decide +kernel) ?_
                refine lv_idiv hx hb dX7_falls_78 (i_nz (iR_c (n := 3) (a := 3) (b := 3) (by decide +kernel) (by decide +kernel)) (by decide +kernel)) ?_
                refine lv_topi (fun y_78p27 ey_78p27 => ?_)
                have f_78p27_2 : iR y_78p27 0 20 := iR_div ey_78p27 f_26_5 (iR_c (n := 3) (a := 3) (b := 3) (by decide +kernel) (by decide +kernel)) (by decide +kernel)
                refine k_put (D := (dC, dI)) (ci := 7) (v := .int y_78p27) (C := RX7) (T := TX7) (N := 92) (ws' := [(h, .inr (7, oM r (upd (upd i 1 0) 77 y_78p27) j)), ((r 0), .inl (cI, 1800, .inl f0)), ((r 48), .inl (cI, 6, .inl f48)), ((r 78), .inl (cI, 20, .inl f78)), ((r 79), .inl (cI, 20, .inl f79))]) hx hb hts hinX7 tyX7 tyX7_ok nmX7 hown hK hP hD hS 0 rfl rfl 77 (by decide) w_1 rfl rfl rfl rfl (Nat.le_of_ble_eq_true rfl) rfl dX7_falls_79 (fun H locs hP hD hS => ?_)
                refine lv_iconst (v := 0) hx hb dX7_falls_82 (by decide +kernel) ?_
                have J_84p27 : ∀ (n_84p27 : Nat) (j84p27_A3 : Nat → Int32) (j84p27_A4 : Nat → Int32) (j84p27_L3 : Int32) (hj84p27_L3 : iR j84p27_L3 0 20) (hm_84p27 : (20 - j84p27_L3.toInt).toNat < n_84p27) (H : Heap) (locs : List Loc) (ls : Array Slot), va_P (dC, dI) vwCl [(h, .inr (7, oM r (upd (upd i 1 0) 77 y_78p27) j)), ((r 0), .inl (cI, 1800, .inl f0)), ((r 48), .inl (cI, 6, .inl f48)), ((r 78), .inl (cI, 20, .inl j84p27_A3)), ((r 79), .inl (cI, 20, .inl j84p27_A4))] H → va_D A [(h, .inr (7, oM r (upd (upd i 1 0) 77 y_78p27) j)), ((r 0), .inl (cI, 1800, .inl f0)), ((r 48), .inl (cI, 6, .inl f48)), ((r 78), .inl (cI, 20, .inl j84p27_A3)), ((r 79), .inl (cI, 20, .inl j84p27_A4))] → va_S A s.heap H locs → lv_has ls 4 [(0, .ref h), (3, .int j84p27_L3)] → W p l e ({ frames := 2, cells := 0, slots := 0, locals := 61 }) s m args below meth c H locs 0 0 (MQ below (va_Qi (fun (r9 : Int32) (u9 : SU) => (iR r9 (-1) 20) ∧ (iR (u9.1 0) 0 20)) (fun u => k_B (dC, dI) vwCl (tyy cI cJ cZ cM) A ((fun (u9 : SU) => [(h, .inr (7, oM r (upd (upd i 1 0) 77 (u9.1 0)) j)), ((r 0), .inl (cI, 1800, .inl f0)), ((r 48), .inl (cI, 6, .inl (u9.2.2.1 0))), ((r 78), .inl (cI, 20, .inl (u9.2.2.1 1))), ((r 79), .inl (cI, 20, .inl (u9.2.2.1 2)))]) u)) A) args s 0 0 A) (F0 m 84 ls []) := by
                  intro n_84p27
                  induction n_84p27 with
                  | zero => intro j84p27_A3 j84p27_A4 j84p27_L3 hj84p27_L3 hm_84p27; exact absurd hm_84p27 (Nat.not_lt_zero _)
                  | succ n_84p27 ih_84p27 =>
                    intro j84p27_A3 j84p27_A4 j84p27_L3 hj84p27_L3 hm_84p27 H locs ls hP hD hS hl
                    refine lv_iload_n hx hb dX7_falls_84 rfl (lv_at hl 1 rfl) ?_
                    refine lv_aload_n hx hb dX7_falls_85 rfl (lv_at hl 0 rfl) ?_
                    refine k_get (D := (dC, dI)) (ci := 7) (v := .int y_78p27) (C := RX7) (T := TX7) (N := 92) hx hb hts hinX7 hown hK hP 0 rfl rfl 77 (by decide) w_1 rfl rfl dX7_falls_86 ?_
                    refine lv_icmp_ge (tgt := 142) hx hb dX7_falls_89 (by decide) (fun c_89p27 => ?_) (fun c_89p27 => ?_)
                    · have c_89p27 : y_78p27 ≤ j84p27_L3 := c_89p27
                      refine lv_aload_n hx hb dX7_falls_142 rfl (lv_at hl 0 rfl) ?_
                      refine k_get (D := (dC, dI)) (ci := 7) (v := .int y_78p27) (C := RX7) (T := TX7) (N := 92) hx hb hts hinX7 hown hK hP 0 rfl rfl 77 (by decide) w_1 rfl rfl dX7_falls_143 ?_
                      exact k_ri B hP hD hS dX7_falls_146 ((fun k9 => match k9 with | 0 => y_78p27 | _ => 0), (fun _ => 0), (fun k9 => match k9 with | 0 => f48 | 1 => j84p27_A3 | 2 => j84p27_A4 | _ => (fun _ => 0)), (fun _ => (fun _ => 0)), (fun _ => 0)) [0, 1, 2, 3, 4] rfl rfl rfl (Nat.le_of_ble_eq_true rfl) (Nat.le_of_ble_eq_true rfl) ⟨(show iR y_78p27 (-1) 20 from (iR_w f_78p27_2 (by decide +kernel))), (show iR y_78p27 0 20 from f_78p27_2)⟩
                    · have c_89p27 : j84p27_L3 < y_78p27 := i_nle c_89p27
                      have f_92p27_1 : iR j84p27_L3 0 19 := iR_ltL c_89p27 hj84p27_L3 f_78p27_2 (by decide +kernel)
                      have f_92p27_2 : iR y_78p27 1 20 := iR_ltR c_89p27 hj84p27_L3 f_78p27_2 (by decide +kernel)
                      refine lv_aload_n hx hb dX7_falls_92 rfl (lv_at hl 0 rfl) ?_
                      refine k_get (D := (dC, dI)) (ci := 7) (v := .ref (r 78)) (C := RX7) (T := TX7) (N := 92) hx hb hts hinX7 hown hK hP 0 rfl rfl 78 (by decide) w_2 rfl rfl dX7_falls_93 ?_
                      refine lv_iload_n hx hb dX7_falls_96 rfl (lv_at hl 1 rfl) ?_
                      refine lv_aload_n hx hb dX7_falls_97 rfl (lv_at hl 0 rfl) ?_
                      refine k_get (D := (dC, dI)) (ci := 7) (v := .ref (r 0)) (C := RX7) (T := TX7) (N := 92) hx hb hts hinX7 hown hK hP 0 rfl rfl 0 (by decide) w_3 rfl rfl dX7_falls_98 ?_
                      refine lv_iconst (v := 3) hx hb dX7_falls_101 (by decide +kernel) ?_
                      refine lv_iload_n hx hb dX7_falls_102 rfl (lv_at hl 1 rfl) ?_
                      refine lv_imul hx hb dX7_falls_103 ?_
                      refine lv_topi (fun y_103p27 ey_103p27 => ?_)
                      have f_103p27_3 : iR y_103p27 0 57 := iR_mul ey_103p27 (iR_c (n := 3) (a := 3) (b := 3) (by decide +kernel) (by decide +kernel)) f_92p27_1 (by decide +kernel)
                      refine va_iald hx hb hK hP 1 0 rfl rfl (iR_vp f_103p27_3 (by decide +kernel)) dX7_falls_104 ?_
                      have f_104p27_4 : iR (f0 y_103p27.toNatClampNeg) 0 255 := hf0 _
                      refine lv_bipush (v := 8) hx hb dX7_falls_105 (by decide +kernel) ?_
                      refine lv_ishl hx hb dX7_falls_107 ?_
                      refine lv_topi (fun y_107p27 ey_107p27 => ?_)
                      have f_107p27_5 : iR y_107p27 0 65280 := iR_shl 8 ey_107p27 f_104p27_4 (iR_c (n := 8) (a := 8) (b := 8) (by decide +kernel) (by decide +kernel)) (by decide +kernel)
                      refine lv_aload_n hx hb dX7_falls_108 rfl (lv_at hl 0 rfl) ?_
                      refine k_get (D := (dC, dI)) (ci := 7) (v := .ref (r 0)) (C := RX7) (T := TX7) (N := 92) hx hb hts hinX7 hown hK hP 0 rfl rfl 0 (by decide) w_3 rfl rfl dX7_falls_109 ?_
                      refine lv_iconst (v := 3) hx hb dX7_falls_112 (by decide +kernel) ?_
                      refine lv_iload_n hx hb dX7_falls_113 rfl (lv_at hl 1 rfl) ?_
                      refine lv_imul hx hb dX7_falls_114 ?_
                      refine lv_topi (fun y_114p27 ey_114p27 => ?_)
                      have f_114p27_6 : iR y_114p27 0 57 := iR_mul ey_114p27 (iR_c (n := 3) (a := 3) (b := 3) (by decide +kernel) (by decide +kernel)) f_92p27_1 (by decide +kernel)
                      refine lv_iconst (v := 1) hx hb dX7_falls_115 (by decide +kernel) ?_
                      refine lv_iadd hx hb dX7_falls_116 ?_
                      refine lv_topi (fun y_116p27 ey_116p27 => ?_)
                      have f_116p27_7 : iR y_116p27 1 58 := iR_add ey_116p27 f_114p27_6 (iR_c (n := 1) (a := 1) (b := 1) (by decide +kernel) (by decide +kernel)) (by decide +kernel)
                      refine va_iald hx hb hK hP 1 0 rfl rfl (iR_vp f_116p27_7 (by decide +kernel)) dX7_falls_117 ?_
                      have f_117p27_8 : iR (f0 y_116p27.toNatClampNeg) 0 255 := hf0 _
                      refine lv_ior hx hb dX7_falls_118 ?_
                      refine lv_topi (fun y_118p27 ey_118p27 => ?_)
                      have f_118p27_9 : iR y_118p27 0 65535 := iR_or 16 ey_118p27 f_107p27_5 f_117p27_8 (by decide +kernel)
                      refine s_iast (g := (upd j84p27_A3 j84p27_L3.toNatClampNeg y_118p27)) (ws' := [(h, .inr (7, oM r (upd (upd i 1 0) 77 y_78p27) j)), ((r 0), .inl (cI, 1800, .inl f0)), ((r 48), .inl (cI, 6, .inl f48)), ((r 78), .inl (cI, 20, .inl (upd j84p27_A3 j84p27_L3.toNatClampNeg y_118p27))), ((r 79), .inl (cI, 20, .inl j84p27_A4))]) hx hb hK hP hD hS 3 0 rfl rfl (iR_vp f_92p27_1 (by decide +kernel)) rfl rfl dX7_falls_119 (fun H locs hP hD hS => ?_)
                      refine lv_aload_n hx hb dX7_falls_120 rfl (lv_at hl 0 rfl) ?_
                      refine k_get (D := (dC, dI)) (ci := 7) (v := .ref (r 79)) (C := RX7) (T := TX7) (N := 92) hx hb hts hinX7 hown hK hP 0 rfl rfl 79 (by decide) w_4 rfl rfl dX7_falls_121 ?_
                      refine lv_iload_n hx hb dX7_falls_124 rfl (lv_at hl 1 rfl) ?_
                      refine lv_aload_n hx hb dX7_falls_125 rfl (lv_at hl 0 rfl) ?_
                      refine k_get (D := (dC, dI)) (ci := 7) (v := .ref (r 0)) (C := RX7) (T := TX7) (N := 92) hx hb hts hinX7 hown hK hP 0 rfl rfl 0 (by decide) w_3 rfl rfl dX7_falls_126 ?_
                      refine lv_iconst (v := 3) hx hb dX7_falls_129 (by decide +kernel) ?_
                      refine lv_iload_n hx hb dX7_falls_130 rfl (lv_at hl 1 rfl) ?_
                      refine lv_imul hx hb dX7_falls_131 ?_
                      refine lv_topi (fun y_131p27 ey_131p27 => ?_)
                      have f_131p27_10 : iR y_131p27 0 57 := iR_mul ey_131p27 (iR_c (n := 3) (a := 3) (b := 3) (by decide +kernel) (by decide +kernel)) f_92p27_1 (by decide +kernel)
                      refine lv_iconst (v := 2) hx hb dX7_falls_132 (by decide +kernel) ?_
                      refine lv_iadd hx hb dX7_falls_133 ?_
                      refine lv_topi (fun y_133p27 ey_133p27 => ?_)
                      have f_133p27_11 : iR y_133p27 2 59 := iR_add ey_133p27 f_131p27_10 (iR_c (n := 2) (a := 2) (b := 2) (by decide +kernel) (by decide +kernel)) (by decide +kernel)
                      refine va_iald hx hb hK hP 1 0 rfl rfl (iR_vp f_133p27_11 (by decide +kernel)) dX7_falls_134 ?_
                      have f_134p27_12 : iR (f0 y_133p27.toNatClampNeg) 0 255 := hf0 _
                      refine s_iast (g := (upd j84p27_A4 j84p27_L3.toNatClampNeg (f0 y_133p27.toNatClampNeg))) (ws' := [(h, .inr (7, oM r (upd (upd i 1 0) 77 y_78p27) j)), ((r 0), .inl (cI, 1800, .inl f0)), ((r 48), .inl (cI, 6, .inl f48)), ((r 78), .inl (cI, 20, .inl (upd j84p27_A3 j84p27_L3.toNatClampNeg y_118p27))), ((r 79), .inl (cI, 20, .inl (upd j84p27_A4 j84p27_L3.toNatClampNeg (f0 y_133p27.toNatClampNeg))))]) hx hb hK hP hD hS 4 0 rfl rfl (iR_vp f_92p27_1 (by decide +kernel)) rfl rfl dX7_falls_135 (fun H locs hP hD hS => ?_)
                      obtain ⟨y_136p27, ey_136p27⟩ : ∃ y : Int32, y = j84p27_L3 + 1 := ⟨_, rfl⟩
                      refine lv_iinc (v := y_136p27) (lv' := [(3, .int y_136p27), (0, .ref h)]) hx hb dX7_falls_136 hl (k := 1) rfl ey_136p27.symm (by decide) rfl (fun ls hl => ?_)
                      have f_136p27_13 : iR y_136p27 1 20 := iR_add ey_136p27 f_92p27_1 (iR_c (n := 1) (a := 1) (b := 1) (by decide +kernel) (by decide +kernel)) (by decide +kernel)
                      refine lv_goto (tgt := 84) hx hb dX7_falls_139 (by decide) ?_
                      exact ih_84p27 (upd j84p27_A3 j84p27_L3.toNatClampNeg y_118p27) (upd j84p27_A4 j84p27_L3.toNatClampNeg (f0 y_133p27.toNatClampNeg)) y_136p27 (iR_w f_136p27_13 (by decide +kernel)) (m_up (B := 20) hm_84p27 ey_136p27 f_92p27_1 (by decide +kernel)) H locs ls hP hD hS (lv_sub hl [1, 0] rfl)
                refine lv_istore_n (lv' := [(3, .int 0), (0, .ref h), (1, .int (i 1)), (2, .int j34p27_L2)]) hx hb dX7_falls_83 rfl hl (by decide) rfl (fun ls hl => ?_)
                exact J_84p27 _ f78 f79 0 (iR_c (n := 0) (a := 0) (b := 20) (by decide +kernel) (by decide +kernel)) (Nat.lt_succ_self _) H locs ls hP hD hS (lv_sub hl [1, 0] rfl)
              · have c_66p27 : j34p27_L2 = 0 := c_66p27
                have f_69p27_1 : iR j34p27_L2 0 0 := iR_eqL c_66p27 hj34p27_L2 (iR_c (n := 0) (a := 0) (b := 0) (by decide +kernel) (by decide +kernel)) (by decide +kernel)
                refine lv_aload_n hx hb dX7_falls_69 rfl (lv_at hl 0 rfl) ?_
                refine lv_iconst (v := 5) hx hb dX7_falls_70 (by decide +kernel) ?_
                refine k_ci (wc := [(h, .inr (7, oM r (upd i 1 0) j)), ((r 48), .inl (cI, 6, .inl f48))]) (wr := [((r 0), .inl (cI, 1800, .inl f0)), ((r 78), .inl (cI, 20, .inl f78)), ((r 79), .inl (cI, 20, .inl f79))]) (fun hPc hDc hFc => va_runV (As := [.int 5]) (rest := []) ⟨hx, hb, hml, hown, hts⟩ (s_X7_refuses_v0 l dC dI cI cJ cZ cM h r (upd i 1 0) j 5 f48 (iR_c (n := 5) (a := 0) (b := 5) (by decide +kernel) (by decide +kernel)) (mR_upd 1 hI (show iR _ (loI 1) (hiI 1) from (iR_c (n := 0) (a := 0) (b := 1600) (by decide +kernel) (by decide +kernel)))) H.size) (cwV 1 hts gX7_falls_X7_refuses rfl rfl rfl (by decide +kernel) ⟨(Nat.le_of_ble_eq_true rfl), (Nat.le_of_ble_eq_true rfl)⟩) (k_pV hPc hDc hK hN hC hS hFc hP (q0 := 0) (ci := 7) rfl rfl) rfl rfl hl.1 rfl (lv_room (Nat.le_of_ble_eq_true rfl)) dX7_falls_71 ⟨(Nat.le_of_ble_eq_true rfl), (Nat.le_of_ble_eq_true rfl)⟩) hP hD hS hA [0, 2] [1, 3, 4] rfl rfl rfl rfl (by decide) (fun _ => rfl) 0 0 rfl rfl (fun r_71p27 u_71p27 H locs hw hP hD hS => ?_)
                have g_71p27_0 := hw
                obtain rfl : r_71p27 = (-1) := g_71p27_0
                have hP : va_P (dC, dI) vwCl [((r 0), .inl (cI, 1800, .inl f0)), ((r 78), .inl (cI, 20, .inl f78)), ((r 79), .inl (cI, 20, .inl f79)), (h, .inr (7, oM r (upd i 1 0) j)), ((r 48), .inl (cI, 6, .inl (u_71p27.2.2.1 0)))] H := hP
                have hD : va_D A [((r 0), .inl (cI, 1800, .inl f0)), ((r 78), .inl (cI, 20, .inl f78)), ((r 79), .inl (cI, 20, .inl f79)), (h, .inr (7, oM r (upd i 1 0) j)), ((r 48), .inl (cI, 6, .inl (u_71p27.2.2.1 0)))] := hD
                exact k_ri B hP hD hS dX7_falls_74 ((fun k9 => match k9 with | 0 => (i 77) | _ => 0), (fun _ => 0), (fun k9 => match k9 with | 0 => (u_71p27.2.2.1 0) | 1 => f78 | 2 => f79 | _ => (fun _ => 0)), (fun _ => (fun _ => 0)), (fun _ => 0)) [3, 0, 4, 1, 2] rfl rfl rfl (Nat.le_of_ble_eq_true rfl) (Nat.le_of_ble_eq_true rfl) ⟨(show iR (-1) (-1) 20 from (iR_c (n := (-1)) (a := (-1)) (b := 20) (by decide +kernel) (by decide +kernel))), (show iR (i 77) 0 20 from (hI 77))⟩
            refine lv_icmp_ge (tgt := 65) hx hb dX7_falls_36 (by decide) (fun c_36p27 => ?_) (fun c_36p27 => ?_)
            · have c_36p27 : (i 1) ≤ j34p27_L3 := c_36p27
              exact J_65p27   H locs ls hP hD hS (lv_sub hl [0, 1, 2] rfl)
            · have c_36p27 : j34p27_L3 < (i 1) := i_nle c_36p27
              have f_39p27_1 : iR j34p27_L3 2 59 := iR_ltL c_36p27 hj34p27_L3 f_26_5 (by decide +kernel)
              have f_39p27_2 : iR (i 1) 3 60 := iR_ltR c_36p27 hj34p27_L3 f_26_5 (by decide +kernel)
              refine lv_iload_n hx hb dX7_falls_39 rfl (lv_at hl 2 rfl) ?_
              refine lv_if_eq (tgt := 65) hx hb dX7_falls_40 (by decide) (fun c_40p27 => ?_) (fun c_40p27 => ?_)
              · have c_40p27 : j34p27_L2 = 0 := c_40p27
                have f_65p27_3 : iR j34p27_L2 0 0 := iR_eqL c_40p27 hj34p27_L2 (iR_c (n := 0) (a := 0) (b := 0) (by decide +kernel) (by decide +kernel)) (by decide +kernel)
                exact J_65p27   H locs ls hP hD hS (lv_sub hl [0, 1, 2] rfl)
              · have c_40p27 : ¬ j34p27_L2 = 0 := c_40p27
                have f_43p27_3 : iR j34p27_L2 1 1 := iR_neL c_40p27 hj34p27_L2 (iR_c (n := 0) (a := 0) (b := 0) (by decide +kernel) (by decide +kernel)) (by decide +kernel)
                refine lv_aload_n hx hb dX7_falls_43 rfl (lv_at hl 0 rfl) ?_
                refine k_get (D := (dC, dI)) (ci := 7) (v := .ref (r 0)) (C := RX7) (T := TX7) (N := 92) hx hb hts hinX7 hown hK hP 0 rfl rfl 0 (by decide) w_3 rfl rfl dX7_falls_44 ?_
                refine lv_iload_n hx hb dX7_falls_47 rfl (lv_at hl 3 rfl) ?_
                refine va_iald hx hb hK hP 1 0 rfl rfl (iR_vp f_39p27_1 (by decide +kernel)) dX7_falls_48 ?_
                have f_48p27_4 : iR (f0 j34p27_L3.toNatClampNeg) 0 255 := hf0 _
                refine lv_iconst (v := 2) hx hb dX7_falls_49 (by decide +kernel) ?_
                have J_58p27 : ∀ (j58p27_S0 : Int32) (hj58p27_S0 : iR j58p27_S0 0 1) (H : Heap) (locs : List Loc) (ls : Array Slot), va_P (dC, dI) vwCl [(h, .inr (7, oM r (upd i 1 0) j)), ((r 0), .inl (cI, 1800, .inl f0)), ((r 48), .inl (cI, 6, .inl f48)), ((r 78), .inl (cI, 20, .inl f78)), ((r 79), .inl (cI, 20, .inl f79))] H → va_D A [(h, .inr (7, oM r (upd i 1 0) j)), ((r 0), .inl (cI, 1800, .inl f0)), ((r 48), .inl (cI, 6, .inl f48)), ((r 78), .inl (cI, 20, .inl f78)), ((r 79), .inl (cI, 20, .inl f79))] → va_S A s.heap H locs → lv_has ls 4 [(0, .ref h), (1, .int (i 1)), (3, .int j34p27_L3)] → W p l e ({ frames := 2, cells := 0, slots := 0, locals := 61 }) s m args below meth c H locs 0 0 (MQ below (va_Qi (fun (r9 : Int32) (u9 : SU) => (iR r9 (-1) 20) ∧ (iR (u9.1 0) 0 20)) (fun u => k_B (dC, dI) vwCl (tyy cI cJ cZ cM) A ((fun (u9 : SU) => [(h, .inr (7, oM r (upd (upd i 1 0) 77 (u9.1 0)) j)), ((r 0), .inl (cI, 1800, .inl f0)), ((r 48), .inl (cI, 6, .inl (u9.2.2.1 0))), ((r 78), .inl (cI, 20, .inl (u9.2.2.1 1))), ((r 79), .inl (cI, 20, .inl (u9.2.2.1 2)))]) u)) A) args s 0 0 A) (F0 m 58 ls [.int j58p27_S0]) := by
                  intro j58p27_S0 hj58p27_S0 H locs ls hP hD hS hl
                  refine lv_istore_n (lv' := [(2, .int j58p27_S0), (0, .ref h), (1, .int (i 1)), (3, .int j34p27_L3)]) hx hb dX7_falls_58 rfl hl (by decide) rfl (fun ls hl => ?_)
                  obtain ⟨y_59p27, ey_59p27⟩ : ∃ y : Int32, y = j34p27_L3 + 3 := ⟨_, rfl⟩
                  refine lv_iinc (v := y_59p27) (lv' := [(3, .int y_59p27), (2, .int j58p27_S0), (0, .ref h), (1, .int (i 1))]) hx hb dX7_falls_59 hl (k := 3) rfl ey_59p27.symm (by decide) rfl (fun ls hl => ?_)
                  have f_59p27_1 : iR y_59p27 5 62 := iR_add ey_59p27 f_39p27_1 (iR_c (n := 3) (a := 3) (b := 3) (by decide +kernel) (by decide +kernel)) (by decide +kernel)
                  refine lv_goto (tgt := 34) hx hb dX7_falls_62 (by decide) ?_
                  exact ih_34p27 j58p27_S0 y_59p27 hj58p27_S0 (iR_w f_59p27_1 (by decide +kernel)) (m_upk (B := 80) hm_34p27 ey_59p27 f_39p27_1 (iR_c (n := 3) (a := 3) (b := 3) (by decide +kernel) (by decide +kernel)) (by decide +kernel)) H locs ls hP hD hS (lv_sub hl [2, 3, 1, 0] rfl)
                refine lv_icmp_ge (tgt := 57) hx hb dX7_falls_50 (by decide) (fun c_50p27 => ?_) (fun c_50p27 => ?_)
                · have c_50p27 : 2 ≤ (f0 j34p27_L3.toNatClampNeg) := c_50p27
                  have f_57p27_5 : iR (f0 j34p27_L3.toNatClampNeg) 2 255 := iR_leR c_50p27 (iR_c (n := 2) (a := 2) (b := 2) (by decide +kernel) (by decide +kernel)) f_48p27_4 (by decide +kernel)
                  refine lv_iconst (v := 0) hx hb dX7_falls_57 (by decide +kernel) ?_
                  exact J_58p27 0 (iR_c (n := 0) (a := 0) (b := 1) (by decide +kernel) (by decide +kernel)) H locs ls hP hD hS (lv_sub hl [0, 1, 3] rfl)
                · have c_50p27 : (f0 j34p27_L3.toNatClampNeg) < 2 := i_nle c_50p27
                  have f_53p27_5 : iR (f0 j34p27_L3.toNatClampNeg) 0 1 := iR_ltL c_50p27 f_48p27_4 (iR_c (n := 2) (a := 2) (b := 2) (by decide +kernel) (by decide +kernel)) (by decide +kernel)
                  refine lv_iconst (v := 1) hx hb dX7_falls_53 (by decide +kernel) ?_
                  refine lv_goto (tgt := 58) hx hb dX7_falls_54 (by decide) ?_
                  exact J_58p27 1 (iR_c (n := 1) (a := 0) (b := 1) (by decide +kernel) (by decide +kernel)) H locs ls hP hD hS (lv_sub hl [0, 1, 3] rfl)
        refine lv_istore_n (lv' := [(3, .int 2), (2, .int 1), (1, .int (i 1)), (0, .ref h)]) hx hb dX7_falls_33 rfl hl (by decide) rfl (fun ls hl => ?_)
        exact J_34p27 _ 1 2 (iR_c (n := 1) (a := 0) (b := 1) (by decide +kernel) (by decide +kernel)) (iR_c (n := 2) (a := 2) (b := 80) (by decide +kernel) (by decide +kernel)) (Nat.lt_succ_self _) H locs ls hP hD hS (lv_sub hl [3, 2, 1, 0] rfl)
