set_option maxHeartbeats 8000000 in
set_option maxRecDepth 100000 in
theorem s_X7_refuses_v2 (l : Launch) (dC : Nat → ClassId) (dI : Nat → Nat → Nat) (cI cJ cZ cM : ClassId) (h : Nat) (r : Nat → Nat) (i : Nat → Int32) (j : Nat → Int64) (x1 : Int32) (f48 : Nat → Int32) (hx1 : iR x1 0 5) (hI : mR i) : k_Mi l yX7_refuses wsX7_refuses ({ frames := 1, cells := 0, slots := 0, locals := 40 }) (dC, dI) vwCl (tyy cI cJ cZ cM) [(h, .inr (7, oM r i j)), ((r 48), .inl (cI, 6, .inl f48))] [.ref h, .int x1] 0 0 (fun (u9 : SU) => [(h, .inr (7, oM r i j)), ((r 48), .inl (cI, 6, .inl (u9.2.2.1 0)))]) (fun (r9 : Int32) (u9 : SU) => (r9 = (-1))) := by
  refine fun sz => k_enter (cc := cX7_refuses) (maxL := 2) (ret := some (.int)) (Qc := fun A => va_Qi (fun (r9 : Int32) (u9 : SU) => (r9 = (-1))) (fun u => k_B (dC, dI) vwCl (tyy cI cJ cZ cM) A ((fun (u9 : SU) => [(h, .inr (7, oM r i j)), ((r 48), .inl (cI, 6, .inl (u9.2.2.1 0)))]) u)) A) sz (by decide +kernel) rfl (Nat.le_of_ble_eq_true rfl) (fun p e s m args below meth c A ls H locs B hP hD hS hl => ?_)
  obtain ⟨hx, hb, hml, hown, hts, hr, hlk, hnm, hK, hA, hN, hC⟩ := id B
  have hown : s.vm.findClass RX7 = some m.cls := hown
  have hl : lv_has ls 2 [(0, .ref h), (1, .int x1)] := hl
  have w_0 : (Cond.fieldLink RX7 159 "WishSeaModel" "refused" "[I").before args s = true := hts _ (List.mem_of_getElem? (i := 1) rfl)
  have hinX7 : ∀ w ∈ u_ws RX7 TX7 92, w ∈ wsX7_refuses := fun _ h => List.mem_cons_of_mem _ (List.mem_append_right _ h)
  refine lv_aload_n hx hb dX7_refuses_0 rfl (lv_at hl 0 rfl) ?_
  refine k_get (D := (dC, dI)) (ci := 7) (v := .ref (r 48)) (C := RX7) (T := TX7) (N := 92) hx hb hts hinX7 hown hK hP 0 rfl rfl 48 (by decide) w_0 rfl rfl dX7_refuses_1 ?_
  refine lv_iload_n hx hb dX7_refuses_4 rfl (lv_at hl 1 rfl) ?_
  refine lv_dup2_11 hx hb dX7_refuses_5 rfl rfl ?_
  refine va_iald hx hb hK hP 1 0 rfl rfl (iR_vp hx1 (by decide +kernel)) dX7_refuses_6 ?_
  refine lv_iconst (v := 1) hx hb dX7_refuses_7 (by decide +kernel) ?_
  refine lv_iadd hx hb dX7_refuses_8 ?_
  refine lv_topi (fun y_8 ey_8 => ?_)
  refine s_iast (g := (upd f48 x1.toNatClampNeg y_8)) (ws' := [(h, .inr (7, oM r i j)), ((r 48), .inl (cI, 6, .inl (upd f48 x1.toNatClampNeg y_8)))]) hx hb hK hP hD hS 1 0 rfl rfl (iR_vp hx1 (by decide +kernel)) rfl rfl dX7_refuses_9 (fun H locs hP hD hS => ?_)
  refine lv_iconst (v := (-1)) hx hb dX7_refuses_10 (by decide +kernel) ?_
  exact k_ri B hP hD hS dX7_refuses_11 ((fun _ => 0), (fun _ => 0), (fun k9 => match k9 with | 0 => (upd f48 x1.toNatClampNeg y_8) | _ => (fun _ => 0)), (fun _ => (fun _ => 0)), (fun _ => 0)) [0, 1] rfl rfl rfl (Nat.le_of_ble_eq_true rfl) (Nat.le_of_ble_eq_true rfl) rfl
set_option maxHeartbeats 8000000 in
set_option maxRecDepth 100000 in
theorem s_X7_night_v0 (l : Launch) (dC : Nat → ClassId) (dI : Nat → Nat → Nat) (cI cJ cZ cM : ClassId) (h : Nat) (r : Nat → Nat) (i : Nat → Int32) (j : Nat → Int64) (f14 : Nat → Int32) (f17 : Nat → Int32) (f31 : Nat → Int32) (f48 : Nat → Int32) (f49 : Nat → Int32) (f50 : Nat → Int32) (f51 : Nat → Int32) (f52 : Nat → Int32) (f53 : Nat → Int32) (f54 : Nat → Int32) (f55 : Nat → Int32) (f56 : Nat → Int32) (f57 : Nat → Int32) (hI : mR i) (hf14 : aR f14 0 10) (hf17 : aR f17 0 1) (hf31 : aR f31 0 999) (hf49 : aR f49 0 1023) (hf50 : aR f50 0 999) (hf53 : aR f53 0 50) : k_Mi l yX7_night wsX7_night ({ frames := 3, cells := 0, slots := 0, locals := 83 }) (dC, dI) vwCl (tyy cI cJ cZ cM) [(h, .inr (7, oM r i j)), ((r 14), .inl (cI, 2, .inl f14)), ((r 17), .inl (cI, 20, .inl f17)), ((r 31), .inl (cI, 2, .inl f31)), ((r 48), .inl (cI, 6, .inl f48)), ((r 49), .inl (cI, 22, .inl f49)), ((r 50), .inl (cI, 22, .inl f50)), ((r 51), .inl (cI, 22, .inl f51)), ((r 52), .inl (cI, 22, .inl f52)), ((r 53), .inl (cI, 22, .inl f53)), ((r 54), .inl (cI, 1100, .inl f54)), ((r 55), .inl (cI, 1100, .inl f55)), ((r 56), .inl (cI, 1100, .inl f56)), ((r 57), .inl (cI, 1100, .inl f57))] [.ref h] 0 0 (fun (u9 : SU) => [(h, .inr (7, oM r (upd (upd i 58 (u9.1 0)) 59 (u9.1 1)) j)), ((r 14), .inl (cI, 2, .inl f14)), ((r 17), .inl (cI, 20, .inl f17)), ((r 31), .inl (cI, 2, .inl f31)), ((r 48), .inl (cI, 6, .inl (u9.2.2.1 0))), ((r 49), .inl (cI, 22, .inl (u9.2.2.1 1))), ((r 50), .inl (cI, 22, .inl (u9.2.2.1 2))), ((r 51), .inl (cI, 22, .inl (u9.2.2.1 3))), ((r 52), .inl (cI, 22, .inl (u9.2.2.1 4))), ((r 53), .inl (cI, 22, .inl (u9.2.2.1 5))), ((r 54), .inl (cI, 1100, .inl (u9.2.2.1 6))), ((r 55), .inl (cI, 1100, .inl (u9.2.2.1 7))), ((r 56), .inl (cI, 1100, .inl (u9.2.2.1 8))), ((r 57), .inl (cI, 1100, .inl (u9.2.2.1 9)))]) (fun (r9 : Int32) (u9 : SU) => (iR (u9.1 0) 0 19) ∧ (iR (u9.1 1) 0 20) ∧ (aR (u9.2.2.1 1) 0 1023) ∧ (aR (u9.2.2.1 2) 0 999) ∧ (aR (u9.2.2.1 5) 0 50)) := by
  refine fun sz => k_enter (cc := cX7_night) (maxL := 1) (ret := some (.int)) (Qc := fun A => va_Qi (fun (r9 : Int32) (u9 : SU) => (iR (u9.1 0) 0 19) ∧ (iR (u9.1 1) 0 20) ∧ (aR (u9.2.2.1 1) 0 1023) ∧ (aR (u9.2.2.1 2) 0 999) ∧ (aR (u9.2.2.1 5) 0 50)) (fun u => k_B (dC, dI) vwCl (tyy cI cJ cZ cM) A ((fun (u9 : SU) => [(h, .inr (7, oM r (upd (upd i 58 (u9.1 0)) 59 (u9.1 1)) j)), ((r 14), .inl (cI, 2, .inl f14)), ((r 17), .inl (cI, 20, .inl f17)), ((r 31), .inl (cI, 2, .inl f31)), ((r 48), .inl (cI, 6, .inl (u9.2.2.1 0))), ((r 49), .inl (cI, 22, .inl (u9.2.2.1 1))), ((r 50), .inl (cI, 22, .inl (u9.2.2.1 2))), ((r 51), .inl (cI, 22, .inl (u9.2.2.1 3))), ((r 52), .inl (cI, 22, .inl (u9.2.2.1 4))), ((r 53), .inl (cI, 22, .inl (u9.2.2.1 5))), ((r 54), .inl (cI, 1100, .inl (u9.2.2.1 6))), ((r 55), .inl (cI, 1100, .inl (u9.2.2.1 7))), ((r 56), .inl (cI, 1100, .inl (u9.2.2.1 8))), ((r 57), .inl (cI, 1100, .inl (u9.2.2.1 9)))]) u)) A) sz (by decide +kernel) rfl (Nat.le_of_ble_eq_true rfl) (fun p e s m args below meth c A ls H locs B hP hD hS hl => ?_)
  obtain ⟨hx, hb, hml, hown, hts, hr, hlk, hnm, hK, hA, hN, hC⟩ := id B
  have hown : s.vm.findClass RX7 = some m.cls := hown
  have hl : lv_has ls 1 [(0, .ref h)] := hl
  have w_0 : (Cond.fieldLink RX7 171 "WishSeaModel" "dayOf" "[I").before args s = true := hts _ (List.mem_of_getElem? (i := 1) rfl)
  have hinX7 : ∀ w ∈ u_ws RX7 TX7 92, w ∈ wsX7_night := fun _ h => List.mem_cons_of_mem _ (List.mem_append_right _ h)
  refine lv_aload_n hx hb dX7_night_0 rfl (lv_at hl 0 rfl) ?_
  refine k_get (D := (dC, dI)) (ci := 7) (v := .ref (r 52)) (C := RX7) (T := TX7) (N := 92) hx hb hts hinX7 hown hK hP 0 rfl rfl 52 (by decide) w_0 rfl rfl dX7_night_1 ?_
  refine lv_iconst (v := 0) hx hb dX7_night_4 (by decide +kernel) ?_
  refine k_iald (v := (f52 0)) hx hb hK hP 8 0 0 rfl rfl rfl (Nat.le_of_ble_eq_true rfl) (Nat.le_of_ble_eq_true rfl) rfl dX7_night_5 ?_
  refine lv_sipush (v := 9999) hx hb dX7_night_6 (by decide +kernel) ?_
  refine lv_icmp_ne (tgt := 18) hx hb dX7_night_9 (by decide) (fun c_9 => ?_) (fun c_9 => ?_)
  · have c_9 : ¬ (f52 0) = 9999 := c_9
    refine lv_aload_n hx hb dX7_night_18 rfl (lv_at hl 0 rfl) ?_
    refine k_cv (wc := [(h, .inr (7, oM r i j)), ((r 49), .inl (cI, 22, .inl f49)), ((r 50), .inl (cI, 22, .inl f50)), ((r 51), .inl (cI, 22, .inl f51)), ((r 52), .inl (cI, 22, .inl f52)), ((r 53), .inl (cI, 22, .inl f53)), ((r 54), .inl (cI, 1100, .inl f54)), ((r 55), .inl (cI, 1100, .inl f55)), ((r 56), .inl (cI, 1100, .inl f56)), ((r 57), .inl (cI, 1100, .inl f57))]) (wr := [((r 14), .inl (cI, 2, .inl f14)), ((r 17), .inl (cI, 20, .inl f17)), ((r 31), .inl (cI, 2, .inl f31)), ((r 48), .inl (cI, 6, .inl f48))]) (fun hPc hDc hFc => va_runV (As := []) (rest := []) ⟨hx, hb, hml, hown, hts⟩ (s_X7_keeps_v1 l dC dI cI cJ cZ cM h r i j f49 f50 f51 f52 f53 f54 f55 f56 f57 hI hf49 hf50 hf53 H.size) (cwV 0 hts gX7_night_X7_keeps rfl rfl rfl (by decide +kernel) ⟨(Nat.le_of_ble_eq_true rfl), (Nat.le_of_ble_eq_true rfl)⟩) (k_pV hPc hDc hK hN hC hS hFc hP (q0 := 0) (ci := 7) rfl rfl) rfl rfl hl.1 rfl (lv_room (Nat.le_of_ble_eq_true rfl)) dX7_night_19 ⟨(Nat.le_of_ble_eq_true rfl), (Nat.le_of_ble_eq_true rfl)⟩) hP hD hS hA [0, 5, 6, 7, 8, 9, 10, 11, 12, 13] [1, 2, 3, 4] rfl rfl rfl rfl (by decide) (fun _ => rfl) 0 0 rfl rfl (fun u_19 H locs hw hP hD hS => ?_)
    obtain ⟨g_19_0, g_19_1, g_19_2, g_19_3, g_19_4⟩ := hw
    have hP : va_P (dC, dI) vwCl [((r 14), .inl (cI, 2, .inl f14)), ((r 17), .inl (cI, 20, .inl f17)), ((r 31), .inl (cI, 2, .inl f31)), ((r 48), .inl (cI, 6, .inl f48)), (h, .inr (7, oM r (upd (upd i 58 (u_19.1 0)) 59 (u_19.1 1)) j)), ((r 49), .inl (cI, 22, .inl (u_19.2.2.1 0))), ((r 50), .inl (cI, 22, .inl (u_19.2.2.1 1))), ((r 51), .inl (cI, 22, .inl (u_19.2.2.1 2))), ((r 52), .inl (cI, 22, .inl (u_19.2.2.1 3))), ((r 53), .inl (cI, 22, .inl (u_19.2.2.1 4))), ((r 54), .inl (cI, 1100, .inl (u_19.2.2.1 5))), ((r 55), .inl (cI, 1100, .inl (u_19.2.2.1 6))), ((r 56), .inl (cI, 1100, .inl (u_19.2.2.1 7))), ((r 57), .inl (cI, 1100, .inl (u_19.2.2.1 8)))] H := hP
    have hD : va_D A [((r 14), .inl (cI, 2, .inl f14)), ((r 17), .inl (cI, 20, .inl f17)), ((r 31), .inl (cI, 2, .inl f31)), ((r 48), .inl (cI, 6, .inl f48)), (h, .inr (7, oM r (upd (upd i 58 (u_19.1 0)) 59 (u_19.1 1)) j)), ((r 49), .inl (cI, 22, .inl (u_19.2.2.1 0))), ((r 50), .inl (cI, 22, .inl (u_19.2.2.1 1))), ((r 51), .inl (cI, 22, .inl (u_19.2.2.1 2))), ((r 52), .inl (cI, 22, .inl (u_19.2.2.1 3))), ((r 53), .inl (cI, 22, .inl (u_19.2.2.1 4))), ((r 54), .inl (cI, 1100, .inl (u_19.2.2.1 5))), ((r 55), .inl (cI, 1100, .inl (u_19.2.2.1 6))), ((r 56), .inl (cI, 1100, .inl (u_19.2.2.1 7))), ((r 57), .inl (cI, 1100, .inl (u_19.2.2.1 8)))] := hD
    refine lv_aload_n hx hb dX7_night_22 rfl (lv_at hl 0 rfl) ?_
    refine lv_iconst (v := 0) hx hb dX7_night_23 (by decide +kernel) ?_
    refine k_cv (wc := [(h, .inr (7, oM r (upd (upd i 58 (u_19.1 0)) 59 (u_19.1 1)) j)), ((r 14), .inl (cI, 2, .inl f14)), ((r 17), .inl (cI, 20, .inl f17)), ((r 31), .inl (cI, 2, .inl f31)), ((r 49), .inl (cI, 22, .inl (u_19.2.2.1 0))), ((r 50), .inl (cI, 22, .inl (u_19.2.2.1 1))), ((r 51), .inl (cI, 22, .inl (u_19.2.2.1 2))), ((r 52), .inl (cI, 22, .inl (u_19.2.2.1 3)))]) (wr := [((r 48), .inl (cI, 6, .inl f48)), ((r 53), .inl (cI, 22, .inl (u_19.2.2.1 4))), ((r 54), .inl (cI, 1100, .inl (u_19.2.2.1 5))), ((r 55), .inl (cI, 1100, .inl (u_19.2.2.1 6))), ((r 56), .inl (cI, 1100, .inl (u_19.2.2.1 7))), ((r 57), .inl (cI, 1100, .inl (u_19.2.2.1 8)))]) (fun hPc hDc hFc => va_runV (As := [.int 0]) (rest := []) ⟨hx, hb, hml, hown, hts⟩ (s_X7_dayEnds_v1 l dC dI cI cJ cZ cM h r (upd (upd i 58 (u_19.1 0)) 59 (u_19.1 1)) j 0 f14 f17 f31 (u_19.2.2.1 0) (u_19.2.2.1 1) (u_19.2.2.1 2) (u_19.2.2.1 3) (iR_c (n := 0) (by decide +kernel) (by decide +kernel)) (mR_upd 59 (mR_upd 58 hI (show iR _ (loI 58) (hiI 58) from g_19_0)) (show iR _ (loI 59) (hiI 59) from (iR_w g_19_1 (by decide +kernel)))) hf14 hf17 hf31 g_19_2 g_19_3 H.size) (cwV 1 hts gX7_night_X7_dayEnds rfl rfl rfl (by decide +kernel) ⟨(Nat.le_of_ble_eq_true rfl), (Nat.le_of_ble_eq_true rfl)⟩) (k_pV hPc hDc hK hN hC hS hFc hP (q0 := 4) (ci := 7) rfl rfl) rfl rfl hl.1 rfl (lv_room (Nat.le_of_ble_eq_true rfl)) dX7_night_24 ⟨(Nat.le_of_ble_eq_true rfl), (Nat.le_of_ble_eq_true rfl)⟩) hP hD hS hA [4, 0, 1, 2, 5, 6, 7, 8] [3, 9, 10, 11, 12, 13] rfl rfl rfl rfl (by decide) (fun _ => rfl) 0 0 rfl rfl (fun u_24 H locs hw hP hD hS => ?_)
    obtain ⟨g_24_0, g_24_1⟩ := hw
    have hP : va_P (dC, dI) vwCl [((r 48), .inl (cI, 6, .inl f48)), ((r 53), .inl (cI, 22, .inl (u_19.2.2.1 4))), ((r 54), .inl (cI, 1100, .inl (u_19.2.2.1 5))), ((r 55), .inl (cI, 1100, .inl (u_19.2.2.1 6))), ((r 56), .inl (cI, 1100, .inl (u_19.2.2.1 7))), ((r 57), .inl (cI, 1100, .inl (u_19.2.2.1 8))), (h, .inr (7, oM r (upd (upd i 58 (u_19.1 0)) 59 (u_19.1 1)) j)), ((r 14), .inl (cI, 2, .inl f14)), ((r 17), .inl (cI, 20, .inl f17)), ((r 31), .inl (cI, 2, .inl f31)), ((r 49), .inl (cI, 22, .inl (u_24.2.2.1 0))), ((r 50), .inl (cI, 22, .inl (u_24.2.2.1 1))), ((r 51), .inl (cI, 22, .inl (upd (u_19.2.2.1 2) 0 0))), ((r 52), .inl (cI, 22, .inl (u_24.2.2.1 2)))] H := hP
    have hD : va_D A [((r 48), .inl (cI, 6, .inl f48)), ((r 53), .inl (cI, 22, .inl (u_19.2.2.1 4))), ((r 54), .inl (cI, 1100, .inl (u_19.2.2.1 5))), ((r 55), .inl (cI, 1100, .inl (u_19.2.2.1 6))), ((r 56), .inl (cI, 1100, .inl (u_19.2.2.1 7))), ((r 57), .inl (cI, 1100, .inl (u_19.2.2.1 8))), (h, .inr (7, oM r (upd (upd i 58 (u_19.1 0)) 59 (u_19.1 1)) j)), ((r 14), .inl (cI, 2, .inl f14)), ((r 17), .inl (cI, 20, .inl f17)), ((r 31), .inl (cI, 2, .inl f31)), ((r 49), .inl (cI, 22, .inl (u_24.2.2.1 0))), ((r 50), .inl (cI, 22, .inl (u_24.2.2.1 1))), ((r 51), .inl (cI, 22, .inl (upd (u_19.2.2.1 2) 0 0))), ((r 52), .inl (cI, 22, .inl (u_24.2.2.1 2)))] := hD
    refine lv_aload_n hx hb dX7_night_27 rfl (lv_at hl 0 rfl) ?_
    refine k_get (D := (dC, dI)) (ci := 7) (v := .ref (r 52)) (C := RX7) (T := TX7) (N := 92) hx hb hts hinX7 hown hK hP 6 rfl rfl 52 (by decide) w_0 rfl rfl dX7_night_28 ?_
    refine lv_iconst (v := 0) hx hb dX7_night_31 (by decide +kernel) ?_
    refine k_iald (v := ((u_24.2.2.1 2) 0)) hx hb hK hP 13 0 0 rfl rfl rfl (Nat.le_of_ble_eq_true rfl) (Nat.le_of_ble_eq_true rfl) rfl dX7_night_32 ?_
    exact k_ri B hP hD hS dX7_night_33 ((fun k9 => match k9 with | 0 => (u_19.1 0) | 1 => (u_19.1 1) | _ => 0), (fun _ => 0), (fun k9 => match k9 with | 0 => f48 | 1 => (u_24.2.2.1 0) | 2 => (u_24.2.2.1 1) | 3 => (upd (u_19.2.2.1 2) 0 0) | 4 => (u_24.2.2.1 2) | 5 => (u_19.2.2.1 4) | 6 => (u_19.2.2.1 5) | 7 => (u_19.2.2.1 6) | 8 => (u_19.2.2.1 7) | 9 => (u_19.2.2.1 8) | _ => (fun _ => 0)), (fun _ => (fun _ => 0)), (fun _ => 0)) [6, 7, 8, 9, 0, 10, 11, 12, 13, 1, 2, 3, 4, 5] rfl rfl rfl (Nat.le_of_ble_eq_true rfl) (Nat.le_of_ble_eq_true rfl) ⟨g_19_0, (iR_w g_19_1 (by decide +kernel)), g_24_0, g_24_1, g_19_4⟩
  · have c_9 : (f52 0) = 9999 := c_9
    have f_12_1 : iR (f52 0) 9999 9999 := iR_eqL c_9 (iR_top _) (iR_c (n := 9999) (by decide +kernel) (by decide +kernel)) (by decide +kernel)
    refine lv_aload_n hx hb dX7_night_12 rfl (lv_at hl 0 rfl) ?_
    refine lv_iconst (v := 3) hx hb dX7_night_13 (by decide +kernel) ?_
    refine k_ci (wc := [(h, .inr (7, oM r i j)), ((r 48), .inl (cI, 6, .inl f48))]) (wr := [((r 14), .inl (cI, 2, .inl f14)), ((r 17), .inl (cI, 20, .inl f17)), ((r 31), .inl (cI, 2, .inl f31)), ((r 49), .inl (cI, 22, .inl f49)), ((r 50), .inl (cI, 22, .inl f50)), ((r 51), .inl (cI, 22, .inl f51)), ((r 52), .inl (cI, 22, .inl f52)), ((r 53), .inl (cI, 22, .inl f53)), ((r 54), .inl (cI, 1100, .inl f54)), ((r 55), .inl (cI, 1100, .inl f55)), ((r 56), .inl (cI, 1100, .inl f56)), ((r 57), .inl (cI, 1100, .inl f57))]) (fun hPc hDc hFc => va_runV (As := [.int 3]) (rest := []) ⟨hx, hb, hml, hown, hts⟩ (s_X7_refuses_v2 l dC dI cI cJ cZ cM h r i j 3 f48 (iR_c (n := 3) (by decide +kernel) (by decide +kernel)) hI H.size) (cwV 1 hts gX7_night_X7_refuses rfl rfl rfl (by decide +kernel) ⟨(Nat.le_of_ble_eq_true rfl), (Nat.le_of_ble_eq_true rfl)⟩) (k_pV hPc hDc hK hN hC hS hFc hP (q0 := 0) (ci := 7) rfl rfl) rfl rfl hl.1 rfl (lv_room (Nat.le_of_ble_eq_true rfl)) dX7_night_14 ⟨(Nat.le_of_ble_eq_true rfl), (Nat.le_of_ble_eq_true rfl)⟩) hP hD hS hA [0, 4] [1, 2, 3, 5, 6, 7, 8, 9, 10, 11, 12, 13] rfl rfl rfl rfl (by decide) (fun _ => rfl) 0 0 rfl rfl (fun r_14 u_14 H locs hw hP hD hS => ?_)
    obtain g_14_0 := hw
    obtain rfl : r_14 = (-1) := g_14_0
    have hP : va_P (dC, dI) vwCl [((r 14), .inl (cI, 2, .inl f14)), ((r 17), .inl (cI, 20, .inl f17)), ((r 31), .inl (cI, 2, .inl f31)), ((r 49), .inl (cI, 22, .inl f49)), ((r 50), .inl (cI, 22, .inl f50)), ((r 51), .inl (cI, 22, .inl f51)), ((r 52), .inl (cI, 22, .inl f52)), ((r 53), .inl (cI, 22, .inl f53)), ((r 54), .inl (cI, 1100, .inl f54)), ((r 55), .inl (cI, 1100, .inl f55)), ((r 56), .inl (cI, 1100, .inl f56)), ((r 57), .inl (cI, 1100, .inl f57)), (h, .inr (7, oM r i j)), ((r 48), .inl (cI, 6, .inl (u_14.2.2.1 0)))] H := hP
    have hD : va_D A [((r 14), .inl (cI, 2, .inl f14)), ((r 17), .inl (cI, 20, .inl f17)), ((r 31), .inl (cI, 2, .inl f31)), ((r 49), .inl (cI, 22, .inl f49)), ((r 50), .inl (cI, 22, .inl f50)), ((r 51), .inl (cI, 22, .inl f51)), ((r 52), .inl (cI, 22, .inl f52)), ((r 53), .inl (cI, 22, .inl f53)), ((r 54), .inl (cI, 1100, .inl f54)), ((r 55), .inl (cI, 1100, .inl f55)), ((r 56), .inl (cI, 1100, .inl f56)), ((r 57), .inl (cI, 1100, .inl f57)), (h, .inr (7, oM r i j)), ((r 48), .inl (cI, 6, .inl (u_14.2.2.1 0)))] := hD
    exact k_ri B hP hD hS dX7_night_17 ((fun k9 => match k9 with | 0 => (i 58) | 1 => (i 59) | _ => 0), (fun _ => 0), (fun k9 => match k9 with | 0 => (u_14.2.2.1 0) | 1 => f49 | 2 => f50 | 3 => f51 | 4 => f52 | 5 => f53 | 6 => f54 | 7 => f55 | 8 => f56 | 9 => f57 | _ => (fun _ => 0)), (fun _ => (fun _ => 0)), (fun _ => 0)) [12, 0, 1, 2, 13, 3, 4, 5, 6, 7, 8, 9, 10, 11] rfl rfl rfl (Nat.le_of_ble_eq_true rfl) (Nat.le_of_ble_eq_true rfl) ⟨(hI 58), (hI 59), hf49, hf50, hf53⟩
set_option maxHeartbeats 8000000 in
set_option maxRecDepth 100000 in
theorem s_X7_isWord_v1 (l : Launch) (dC : Nat → ClassId) (dI : Nat → Nat → Nat) (cI cJ cZ cM : ClassId) (h : Nat) (r : Nat → Nat) (i : Nat → Int32) (j : Nat → Int64) (x1 : Int64) (hI : mR i) : k_Mi l yX7_isWord wsX7_isWord ({ frames := 1, cells := 0, slots := 0, locals := 40 }) (dC, dI) vwCl (tyy cI cJ cZ cM) [(h, .inr (7, oM r i j))] [.ref h, .long x1] 0 0 (fun (u9 : Unit) => [(h, .inr (7, oM r i j))]) (fun (r9 : Int32) (u9 : Unit) => (iR r9 0 1)) := by
  refine fun sz => k_enter (cc := cX7_isWord) (maxL := 3) (ret := some (.boolean)) (Qc := fun A => va_Qi (fun (r9 : Int32) (u9 : Unit) => (iR r9 0 1)) (fun u => k_B (dC, dI) vwCl (tyy cI cJ cZ cM) A ((fun (u9 : Unit) => [(h, .inr (7, oM r i j))]) u)) A) sz (by decide +kernel) rfl (Nat.le_of_ble_eq_true rfl) (fun p e s m args below meth c A ls H locs B hP hD hS hl => ?_)
  obtain ⟨hx, hb, hml, hown, hts, hr, hlk, hnm, hK, hA, hN, hC⟩ := id B
  have hown : s.vm.findClass RX7 = some m.cls := hown
  have hl : lv_has ls 3 [(0, .ref h), (1, .long x1)] := hl
  have w_0 : (Cond.fieldLink RX7 20 "WishSeaModel" "sign" "I").before args s = true := hts _ (List.mem_of_getElem? (i := 1) rfl)
  have w_1 : (Cond.fieldLink RX7 32 "WishSeaModel" "word" "J").before args s = true := hts _ (List.mem_of_getElem? (i := 2) rfl)
  have hinX7 : ∀ w ∈ u_ws RX7 TX7 92, w ∈ wsX7_isWord := fun _ h => List.mem_cons_of_mem _ (List.mem_append_right _ h)
  refine lv_aload_n hx hb dX7_isWord_0 rfl (lv_at hl 0 rfl) ?_
  have f_1_1 : iR (i 3) 0 3 := hI 3
  refine k_get (D := (dC, dI)) (ci := 7) (v := .int (i 3)) (C := RX7) (T := TX7) (N := 92) hx hb hts hinX7 hown hK hP 0 rfl rfl 3 (by decide) w_0 rfl rfl dX7_isWord_1 ?_
  refine lv_iconst (v := 1) hx hb dX7_isWord_4 (by decide +kernel) ?_
  have J_21 : ∀   (H : Heap) (locs : List Loc) (ls : Array Slot), va_P (dC, dI) vwCl [(h, .inr (7, oM r i j))] H → va_D A [(h, .inr (7, oM r i j))] → va_S A s.heap H locs → lv_has ls 3 [] → W p l e ({ frames := 1, cells := 0, slots := 0, locals := 40 }) s m args below meth c H locs 0 0 (MQ below (va_Qi (fun (r9 : Int32) (u9 : Unit) => (iR r9 0 1)) (fun u => k_B (dC, dI) vwCl (tyy cI cJ cZ cM) A ((fun (u9 : Unit) => [(h, .inr (7, oM r i j))]) u)) A) args s 0 0 A) (F0 m 21 ls []) := by
    intro   H locs ls hP hD hS hl
    refine lv_iconst (v := 0) hx hb dX7_isWord_21 (by decide +kernel) ?_
    exact k_ri B hP hD hS dX7_isWord_22 () [0] rfl rfl rfl (Nat.le_of_ble_eq_true rfl) (Nat.le_of_ble_eq_true rfl) (iR_c (n := 0) (by decide +kernel) (by decide +kernel))
  refine lv_icmp_ne (tgt := 21) hx hb dX7_isWord_5 (by decide) (fun c_5 => ?_) (fun c_5 => ?_)
  · have c_5 : ¬ (i 3) = 1 := c_5
    exact J_21   H locs ls hP hD hS (lv_sub hl [] rfl)
  · have c_5 : (i 3) = 1 := c_5
    have f_8_2 : iR (i 3) 1 1 := iR_eqL c_5 f_1_1 (iR_c (n := 1) (by decide +kernel) (by decide +kernel)) (by decide +kernel)
    refine lv_aload_n hx hb dX7_isWord_8 rfl (lv_at hl 0 rfl) ?_
    refine k_get (D := (dC, dI)) (ci := 7) (v := .long (j 7)) (C := RX7) (T := TX7) (N := 92) hx hb hts hinX7 hown hK hP 0 rfl rfl 7 (by decide) w_1 rfl rfl dX7_isWord_9 ?_
    refine lv_lload_n hx hb dX7_isWord_12 rfl (lv_at hl 1 rfl) ?_
    refine W.lcmp hx hb dX7_isWord_13 ?_
    refine lv_topi (fun y_13 ey_13 => ?_)
    refine lv_if_ne (tgt := 21) hx hb dX7_isWord_14 (by decide) (fun c_14 => ?_) (fun c_14 => ?_)
    · have c_14 : ¬ y_13 = 0 := c_14
      have lc_14 : ¬ (j 7) = x1 := l_cmpne ey_13 c_14
      exact J_21   H locs ls hP hD hS (lv_sub hl [] rfl)
    · have c_14 : y_13 = 0 := c_14
      have f_17_3 : iR y_13 0 0 := iR_eqL c_14 (iR_top _) (iR_c (n := 0) (by decide +kernel) (by decide +kernel)) (by decide +kernel)
      have lc_14 : (j 7) = x1 := l_cmpe ey_13 c_14
      refine lv_iconst (v := 1) hx hb dX7_isWord_17 (by decide +kernel) ?_
      refine lv_goto (tgt := 22) hx hb dX7_isWord_18 (by decide) ?_
      exact k_ri B hP hD hS dX7_isWord_22 () [0] rfl rfl rfl (Nat.le_of_ble_eq_true rfl) (Nat.le_of_ble_eq_true rfl) (iR_c (n := 1) (by decide +kernel) (by decide +kernel))
set_option maxHeartbeats 8000000 in
set_option maxRecDepth 100000 in
theorem s_X7_must__v0 (l : Launch) (dC : Nat → ClassId) (dI : Nat → Nat → Nat) (cI cJ cZ cM : ClassId) (h : Nat) (r : Nat → Nat) (i : Nat → Int32) (j : Nat → Int64) (x1 : Int64) (f0 : Nat → Int32) (hI : mR i) (hf0 : aR f0 0 255) : k_Mv l yX7_must_ wsX7_must_ ({ frames := 3, cells := 0, slots := 0, locals := 87 }) (dC, dI) vwCl (tyy cI cJ cZ cM) [(h, .inr (7, oM r i j)), ((r 0), .inl (cI, 1800, .inl f0))] [.ref h, .long x1] 0 0 (fun (u9 : SU) => [(h, .inr (7, oM r (upd (upd (upd (upd (upd (upd (upd i 3 (u9.1 0)) 4 (u9.1 1)) 5 (u9.1 2)) 6 (u9.1 3)) 8 (u9.1 4)) 9 (u9.1 5)) 12 (u9.1 6)) (vp_updL j 7 (u9.2.1 0)))), ((r 0), .inl (cI, 1800, .inl f0))]) (fun (u9 : SU) => (iR (u9.1 0) 0 3) ∧ (iR (u9.1 1) 0 1600) ∧ (iR (u9.1 2) 0 1600) ∧ (iR (u9.1 4) 0 6)) := by
  refine fun sz => k_enter (cc := cX7_must_) (maxL := 3) (ret := none) (Qc := fun A => va_Qv (fun (u9 : SU) => (iR (u9.1 0) 0 3) ∧ (iR (u9.1 1) 0 1600) ∧ (iR (u9.1 2) 0 1600) ∧ (iR (u9.1 4) 0 6)) (fun u => k_B (dC, dI) vwCl (tyy cI cJ cZ cM) A ((fun (u9 : SU) => [(h, .inr (7, oM r (upd (upd (upd (upd (upd (upd (upd i 3 (u9.1 0)) 4 (u9.1 1)) 5 (u9.1 2)) 6 (u9.1 3)) 8 (u9.1 4)) 9 (u9.1 5)) 12 (u9.1 6)) (vp_updL j 7 (u9.2.1 0)))), ((r 0), .inl (cI, 1800, .inl f0))]) u)) A) sz (by decide +kernel) rfl (Nat.le_of_ble_eq_true rfl) (fun p e s m args below meth c A ls H locs B hP hD hS hl => ?_)
  obtain ⟨hx, hb, hml, hown, hts, hr, hlk, hnm, hK, hA, hN, hC⟩ := id B
  have hown : s.vm.findClass RX7 = some m.cls := hown
  have hl : lv_has ls 3 [(0, .ref h), (1, .long x1)] := hl
  have w_0 : (Cond.fieldLink RX7 36 "WishSeaModel" "faultKind" "I").before args s = true := hts _ (List.mem_of_getElem? (i := 1) rfl)
  have w_1 : (Cond.fieldLink RX7 23 "WishSeaModel" "signAt" "I").before args s = true := hts _ (List.mem_of_getElem? (i := 2) rfl)
  have hinX7 : ∀ w ∈ u_ws RX7 TX7 92, w ∈ wsX7_must_ := fun _ h => List.mem_cons_of_mem _ (List.mem_append_right _ h)
  refine lv_aload_n hx hb dX7_must__0 rfl (lv_at hl 0 rfl) ?_
  refine k_cv (wc := [(h, .inr (7, oM r i j))]) (wr := [((r 0), .inl (cI, 1800, .inl f0))]) (fun hPc hDc hFc => va_runV (As := []) (rest := []) ⟨hx, hb, hml, hown, hts⟩ (s_X7_lex_v1 l dC dI cI cJ cZ cM h r i j hI H.size) (cwV 0 hts gX7_must__X7_lex rfl rfl rfl (by decide +kernel) ⟨(Nat.le_of_ble_eq_true rfl), (Nat.le_of_ble_eq_true rfl)⟩) (k_pV hPc hDc hK hN hC hS hFc hP (q0 := 0) (ci := 7) rfl rfl) rfl rfl hl.1 rfl (lv_room (Nat.le_of_ble_eq_true rfl)) dX7_must__1 ⟨(Nat.le_of_ble_eq_true rfl), (Nat.le_of_ble_eq_true rfl)⟩) hP hD hS hA [0] [1] rfl rfl rfl rfl (by decide) (fun _ => rfl) 0 0 rfl rfl (fun u_1 H locs hw hP hD hS => ?_)
  obtain g_1_0 := hw
  have hP : va_P (dC, dI) vwCl [((r 0), .inl (cI, 1800, .inl f0)), (h, .inr (7, oM r (upd (upd i 8 (u_1.1 0)) 9 (u_1.1 1)) j))] H := hP
  have hD : va_D A [((r 0), .inl (cI, 1800, .inl f0)), (h, .inr (7, oM r (upd (upd i 8 (u_1.1 0)) 9 (u_1.1 1)) j))] := hD
  refine lv_aload_n hx hb dX7_must__4 rfl (lv_at hl 0 rfl) ?_
  refine k_get (D := (dC, dI)) (ci := 7) (v := .int (u_1.1 0)) (C := RX7) (T := TX7) (N := 92) hx hb hts hinX7 hown hK hP 1 rfl rfl 8 (by decide) w_0 rfl rfl dX7_must__5 ?_
  refine lv_if_le (tgt := 12) hx hb dX7_must__8 (by decide) (fun c_8 => ?_) (fun c_8 => ?_)
  · have c_8 : (u_1.1 0) ≤ 0 := c_8
    have f_12_1 : iR (u_1.1 0) 0 0 := iR_leL c_8 g_1_0 (iR_c (n := 0) (by decide +kernel) (by decide +kernel)) (by decide +kernel)
    refine lv_aload_n hx hb dX7_must__12 rfl (lv_at hl 0 rfl) ?_
    refine lv_lload_n hx hb dX7_must__13 rfl (lv_at hl 1 rfl) ?_
    refine k_ci (wc := [(h, .inr (7, oM r (upd (upd i 8 (u_1.1 0)) 9 (u_1.1 1)) j))]) (wr := [((r 0), .inl (cI, 1800, .inl f0))]) (fun hPc hDc hFc => va_runV (As := [.long x1]) (rest := []) ⟨hx, hb, hml, hown, hts⟩ (s_X7_isWord_v1 l dC dI cI cJ cZ cM h r (upd (upd i 8 (u_1.1 0)) 9 (u_1.1 1)) j x1 (mR_upd 9 (mR_upd 8 hI (show iR _ (loI 8) (hiI 8) from (iR_w f_12_1 (by decide +kernel)))) (show iR _ (loI 9) (hiI 9) from (iR_top _))) H.size) (cwV 1 hts gX7_must__X7_isWord rfl rfl rfl (by decide +kernel) ⟨(Nat.le_of_ble_eq_true rfl), (Nat.le_of_ble_eq_true rfl)⟩) (k_pV hPc hDc hK hN hC hS hFc hP (q0 := 1) (ci := 7) rfl rfl) rfl rfl hl.1 rfl (lv_room (Nat.le_of_ble_eq_true rfl)) dX7_must__14 ⟨(Nat.le_of_ble_eq_true rfl), (Nat.le_of_ble_eq_true rfl)⟩) hP hD hS hA [1] [0] rfl rfl rfl rfl (by decide) (fun _ => rfl) 0 0 rfl rfl (fun r_14 u_14 H locs hw hP hD hS => ?_)
    obtain g_14_0 := hw
    have hP : va_P (dC, dI) vwCl [((r 0), .inl (cI, 1800, .inl f0)), (h, .inr (7, oM r (upd (upd i 8 (u_1.1 0)) 9 (u_1.1 1)) j))] H := hP
    have hD : va_D A [((r 0), .inl (cI, 1800, .inl f0)), (h, .inr (7, oM r (upd (upd i 8 (u_1.1 0)) 9 (u_1.1 1)) j))] := hD
    have J_29 : ∀ (j29_M0_8 : Int32) (j29_M0_9 : Int32) (hj29_M0_8 : iR j29_M0_8 0 6) (H : Heap) (locs : List Loc) (ls : Array Slot), va_P (dC, dI) vwCl [(h, .inr (7, oM r (upd (upd i 8 j29_M0_8) 9 j29_M0_9) j)), ((r 0), .inl (cI, 1800, .inl f0))] H → va_D A [(h, .inr (7, oM r (upd (upd i 8 j29_M0_8) 9 j29_M0_9) j)), ((r 0), .inl (cI, 1800, .inl f0))] → va_S A s.heap H locs → lv_has ls 3 [(0, .ref h)] → W p l e ({ frames := 3, cells := 0, slots := 0, locals := 87 }) s m args below meth c H locs 0 0 (MQ below (va_Qv (fun (u9 : SU) => (iR (u9.1 0) 0 3) ∧ (iR (u9.1 1) 0 1600) ∧ (iR (u9.1 2) 0 1600) ∧ (iR (u9.1 4) 0 6)) (fun u => k_B (dC, dI) vwCl (tyy cI cJ cZ cM) A ((fun (u9 : SU) => [(h, .inr (7, oM r (upd (upd (upd (upd (upd (upd (upd i 3 (u9.1 0)) 4 (u9.1 1)) 5 (u9.1 2)) 6 (u9.1 3)) 8 (u9.1 4)) 9 (u9.1 5)) 12 (u9.1 6)) (vp_updL j 7 (u9.2.1 0)))), ((r 0), .inl (cI, 1800, .inl f0))]) u)) A) args s 0 0 A) (F0 m 29 ls []) := by
      intro j29_M0_8 j29_M0_9 hj29_M0_8 H locs ls hP hD hS hl
      refine lv_aload_n hx hb dX7_must__29 rfl (lv_at hl 0 rfl) ?_
      refine k_get (D := (dC, dI)) (ci := 7) (v := .int j29_M0_8) (C := RX7) (T := TX7) (N := 92) hx hb hts hinX7 hown hK hP 0 rfl rfl 8 (by decide) w_0 rfl rfl dX7_must__30 ?_
      have J_40 : ∀ (j40_M0_3 : Int32) (j40_M0_4 : Int32) (j40_M0_5 : Int32) (j40_M0_6 : Int32) (j40_M0_7 : Int64) (j40_M0_12 : Int32) (hj40_M0_3 : iR j40_M0_3 0 3) (hj40_M0_4 : iR j40_M0_4 0 1600) (hj40_M0_5 : iR j40_M0_5 0 1600) (H : Heap) (locs : List Loc) (ls : Array Slot), va_P (dC, dI) vwCl [(h, .inr (7, oM r (upd (upd (upd (upd (upd (upd (upd i 3 j40_M0_3) 4 j40_M0_4) 5 j40_M0_5) 6 j40_M0_6) 8 j29_M0_8) 9 j29_M0_9) 12 j40_M0_12) (vp_updL j 7 j40_M0_7))), ((r 0), .inl (cI, 1800, .inl f0))] H → va_D A [(h, .inr (7, oM r (upd (upd (upd (upd (upd (upd (upd i 3 j40_M0_3) 4 j40_M0_4) 5 j40_M0_5) 6 j40_M0_6) 8 j29_M0_8) 9 j29_M0_9) 12 j40_M0_12) (vp_updL j 7 j40_M0_7))), ((r 0), .inl (cI, 1800, .inl f0))] → va_S A s.heap H locs → lv_has ls 3 [] → W p l e ({ frames := 3, cells := 0, slots := 0, locals := 87 }) s m args below meth c H locs 0 0 (MQ below (va_Qv (fun (u9 : SU) => (iR (u9.1 0) 0 3) ∧ (iR (u9.1 1) 0 1600) ∧ (iR (u9.1 2) 0 1600) ∧ (iR (u9.1 4) 0 6)) (fun u => k_B (dC, dI) vwCl (tyy cI cJ cZ cM) A ((fun (u9 : SU) => [(h, .inr (7, oM r (upd (upd (upd (upd (upd (upd (upd i 3 (u9.1 0)) 4 (u9.1 1)) 5 (u9.1 2)) 6 (u9.1 3)) 8 (u9.1 4)) 9 (u9.1 5)) 12 (u9.1 6)) (vp_updL j 7 (u9.2.1 0)))), ((r 0), .inl (cI, 1800, .inl f0))]) u)) A) args s 0 0 A) (F0 m 40 ls []) := by
        intro j40_M0_3 j40_M0_4 j40_M0_5 j40_M0_6 j40_M0_7 j40_M0_12 hj40_M0_3 hj40_M0_4 hj40_M0_5 H locs ls hP hD hS hl
        exact k_rv B hP hD hS dX7_must__40 ((fun k9 => match k9 with | 0 => j40_M0_3 | 1 => j40_M0_4 | 2 => j40_M0_5 | 3 => j40_M0_6 | 4 => j29_M0_8 | 5 => j29_M0_9 | 6 => j40_M0_12 | _ => 0), (fun k9 => match k9 with | 0 => j40_M0_7 | _ => 0), (fun _ => (fun _ => 0)), (fun _ => (fun _ => 0)), (fun _ => 0)) [0, 1] rfl rfl (Nat.le_of_ble_eq_true rfl) (Nat.le_of_ble_eq_true rfl) ⟨hj40_M0_3, hj40_M0_4, hj40_M0_5, hj29_M0_8⟩
      refine lv_if_ne (tgt := 40) hx hb dX7_must__33 (by decide) (fun c_33 => ?_) (fun c_33 => ?_)
      · have c_33 : ¬ j29_M0_8 = 0 := c_33
        have f_40_1 : iR j29_M0_8 1 6 := iR_neL c_33 hj29_M0_8 (iR_c (n := 0) (by decide +kernel) (by decide +kernel)) (by decide +kernel)
        exact J_40 (i 3) (i 4) (i 5) (i 6) (j 7) (i 12) (show iR (i 3) 0 3 from hI 3) (show iR (i 4) 0 1600 from hI 4) (show iR (i 5) 0 1600 from hI 5) H locs ls hP hD hS (lv_sub hl [] rfl)
      · have c_33 : j29_M0_8 = 0 := c_33
        have f_36_1 : iR j29_M0_8 0 0 := iR_eqL c_33 hj29_M0_8 (iR_c (n := 0) (by decide +kernel) (by decide +kernel)) (by decide +kernel)
        refine lv_aload_n hx hb dX7_must__36 rfl (lv_at hl 0 rfl) ?_
        refine k_cv (wc := [(h, .inr (7, oM r (upd (upd i 8 j29_M0_8) 9 j29_M0_9) j)), ((r 0), .inl (cI, 1800, .inl f0))]) (wr := []) (fun hPc hDc hFc => va_runV (As := []) (rest := []) ⟨hx, hb, hml, hown, hts⟩ (s_X7_ahead_v1 l dC dI cI cJ cZ cM h r (upd (upd i 8 j29_M0_8) 9 j29_M0_9) j f0 (mR_upd 9 (mR_upd 8 hI (show iR _ (loI 8) (hiI 8) from (iR_w f_36_1 (by decide +kernel)))) (show iR _ (loI 9) (hiI 9) from (iR_top _))) hf0 H.size) (cwV 0 hts gX7_must__X7_ahead rfl rfl rfl (by decide +kernel) ⟨(Nat.le_of_ble_eq_true rfl), (Nat.le_of_ble_eq_true rfl)⟩) (k_pV hPc hDc hK hN hC hS hFc hP (q0 := 0) (ci := 7) rfl rfl) rfl rfl hl.1 rfl (lv_room (Nat.le_of_ble_eq_true rfl)) dX7_must__37 ⟨(Nat.le_of_ble_eq_true rfl), (Nat.le_of_ble_eq_true rfl)⟩) hP hD hS hA [0, 1] [] rfl rfl rfl rfl (by decide) (fun _ => rfl) 0 0 rfl rfl (fun u_37 H locs hw hP hD hS => ?_)
        obtain ⟨g_37_0, g_37_1, g_37_2, g_37_3⟩ := hw
        have hP : va_P (dC, dI) vwCl [(h, .inr (7, oM r (upd (upd (upd (upd (upd (upd (upd i 3 (u_37.1 0)) 4 (u_37.1 1)) 5 (u_37.1 2)) 6 (u_37.1 3)) 8 j29_M0_8) 9 j29_M0_9) 12 (u_37.1 4)) (vp_updL j 7 (u_37.2.1 0)))), ((r 0), .inl (cI, 1800, .inl f0))] H := hP
        have hD : va_D A [(h, .inr (7, oM r (upd (upd (upd (upd (upd (upd (upd i 3 (u_37.1 0)) 4 (u_37.1 1)) 5 (u_37.1 2)) 6 (u_37.1 3)) 8 j29_M0_8) 9 j29_M0_9) 12 (u_37.1 4)) (vp_updL j 7 (u_37.2.1 0)))), ((r 0), .inl (cI, 1800, .inl f0))] := hD
        exact J_40 (u_37.1 0) (u_37.1 1) (u_37.1 2) (u_37.1 3) (u_37.2.1 0) (u_37.1 4) g_37_0 g_37_1 g_37_2 H locs ls hP hD hS (lv_sub hl [] rfl)
    refine lv_if_ne (tgt := 29) hx hb dX7_must__17 (by decide) (fun c_17 => ?_) (fun c_17 => ?_)
    · have c_17 : ¬ r_14 = 0 := c_17
      have f_29_2 : iR r_14 1 1 := iR_neL c_17 g_14_0 (iR_c (n := 0) (by decide +kernel) (by decide +kernel)) (by decide +kernel)
      exact J_29 (u_1.1 0) (u_1.1 1) (iR_w f_12_1 (by decide +kernel)) H locs ls (hP.sub [1, 0] rfl) (hD.sub [1, 0] (by decide +kernel) rfl) hS (lv_sub hl [0] rfl)
    · have c_17 : r_14 = 0 := c_17
      have f_20_2 : iR r_14 0 0 := iR_eqL c_17 g_14_0 (iR_c (n := 0) (by decide +kernel) (by decide +kernel)) (by decide +kernel)
      refine lv_aload_n hx hb dX7_must__20 rfl (lv_at hl 0 rfl) ?_
      refine lv_iconst (v := 1) hx hb dX7_must__21 (by decide +kernel) ?_
      refine lv_aload_n hx hb dX7_must__22 rfl (lv_at hl 0 rfl) ?_
      have f_23_3 : iR (i 4) 0 1600 := hI 4
      refine k_get (D := (dC, dI)) (ci := 7) (v := .int (i 4)) (C := RX7) (T := TX7) (N := 92) hx hb hts hinX7 hown hK hP 1 rfl rfl 4 (by decide) w_1 rfl rfl dX7_must__23 ?_
      refine k_cv (wc := [(h, .inr (7, oM r (upd (upd i 8 (u_1.1 0)) 9 (u_1.1 1)) j))]) (wr := [((r 0), .inl (cI, 1800, .inl f0))]) (fun hPc hDc hFc => va_runV (As := [.int 1, .int (i 4)]) (rest := []) ⟨hx, hb, hml, hown, hts⟩ (s_X7_blame_v2 l dC dI cI cJ cZ cM h r (upd (upd i 8 (u_1.1 0)) 9 (u_1.1 1)) j 1 (i 4) (iR_c (n := 1) (by decide +kernel) (by decide +kernel)) (mR_upd 9 (mR_upd 8 hI (show iR _ (loI 8) (hiI 8) from (iR_w f_12_1 (by decide +kernel)))) (show iR _ (loI 9) (hiI 9) from (iR_top _))) H.size) (cwV 2 hts gX7_must__X7_blame rfl rfl rfl (by decide +kernel) ⟨(Nat.le_of_ble_eq_true rfl), (Nat.le_of_ble_eq_true rfl)⟩) (k_pV hPc hDc hK hN hC hS hFc hP (q0 := 1) (ci := 7) rfl rfl) rfl rfl hl.1 rfl (lv_room (Nat.le_of_ble_eq_true rfl)) dX7_must__26 ⟨(Nat.le_of_ble_eq_true rfl), (Nat.le_of_ble_eq_true rfl)⟩) hP hD hS hA [1] [0] rfl rfl rfl rfl (by decide) (fun _ => rfl) 0 0 rfl rfl (fun u_26 H locs hw hP hD hS => ?_)
      obtain g_26_0 := hw
      have hP : va_P (dC, dI) vwCl [((r 0), .inl (cI, 1800, .inl f0)), (h, .inr (7, oM r (upd (upd i 8 (u_26.1 0)) 9 (u_26.1 1)) j))] H := hP
      have hD : va_D A [((r 0), .inl (cI, 1800, .inl f0)), (h, .inr (7, oM r (upd (upd i 8 (u_26.1 0)) 9 (u_26.1 1)) j))] := hD
      exact J_29 (u_26.1 0) (u_26.1 1) (iR_w g_26_0 (by decide +kernel)) H locs ls (hP.sub [1, 0] rfl) (hD.sub [1, 0] (by decide +kernel) rfl) hS (lv_sub hl [0] rfl)
  · have c_8 : 0 < (u_1.1 0) := i_nle c_8
    have f_11_1 : iR (u_1.1 0) 1 6 := iR_ltR c_8 (iR_c (n := 0) (by decide +kernel) (by decide +kernel)) g_1_0 (by decide +kernel)
    exact k_rv B hP hD hS dX7_must__11 ((fun k9 => match k9 with | 0 => (i 3) | 1 => (i 4) | 2 => (i 5) | 3 => (i 6) | 4 => (u_1.1 0) | 5 => (u_1.1 1) | 6 => (i 12) | _ => 0), (fun k9 => match k9 with | 0 => (j 7) | _ => 0), (fun _ => (fun _ => 0)), (fun _ => (fun _ => 0)), (fun _ => 0)) [1, 0] rfl rfl (Nat.le_of_ble_eq_true rfl) (Nat.le_of_ble_eq_true rfl) ⟨(hI 3), (hI 4), (hI 5), (iR_w f_11_1 (by decide +kernel))⟩
set_option maxHeartbeats 8000000 in
set_option maxRecDepth 100000 in
theorem s_X7_counts_v0 (l : Launch) (dC : Nat → ClassId) (dI : Nat → Nat → Nat) (cI cJ cZ cM : ClassId) (h : Nat) (r : Nat → Nat) (i : Nat → Int32) (j : Nat → Int64) (x1 : Int32) (f0 : Nat → Int32) (hI : mR i) (hf0 : aR f0 0 255) : k_Mi l yX7_counts wsX7_counts ({ frames := 3, cells := 0, slots := 0, locals := 87 }) (dC, dI) vwCl (tyy cI cJ cZ cM) [(h, .inr (7, oM r i j)), ((r 0), .inl (cI, 1800, .inl f0))] [.ref h, .int x1] 0 0 (fun (u9 : SU) => [(h, .inr (7, oM r (upd (upd (upd (upd (upd (upd (upd i 3 (u9.1 0)) 4 (u9.1 1)) 5 (u9.1 2)) 6 (u9.1 3)) 8 (u9.1 4)) 9 (u9.1 5)) 12 (u9.1 6)) (vp_updL j 7 (u9.2.1 0)))), ((r 0), .inl (cI, 1800, .inl f0))]) (fun (r9 : Int32) (u9 : SU) => (iR r9 0 1) ∧ (iR (u9.1 0) 0 3) ∧ (iR (u9.1 1) 0 1600) ∧ (iR (u9.1 2) 0 1600) ∧ (iR (u9.1 4) 0 6)) := by
  refine fun sz => k_enter (cc := cX7_counts) (maxL := 2) (ret := some (.boolean)) (Qc := fun A => va_Qi (fun (r9 : Int32) (u9 : SU) => (iR r9 0 1) ∧ (iR (u9.1 0) 0 3) ∧ (iR (u9.1 1) 0 1600) ∧ (iR (u9.1 2) 0 1600) ∧ (iR (u9.1 4) 0 6)) (fun u => k_B (dC, dI) vwCl (tyy cI cJ cZ cM) A ((fun (u9 : SU) => [(h, .inr (7, oM r (upd (upd (upd (upd (upd (upd (upd i 3 (u9.1 0)) 4 (u9.1 1)) 5 (u9.1 2)) 6 (u9.1 3)) 8 (u9.1 4)) 9 (u9.1 5)) 12 (u9.1 6)) (vp_updL j 7 (u9.2.1 0)))), ((r 0), .inl (cI, 1800, .inl f0))]) u)) A) sz (by decide +kernel) rfl (Nat.le_of_ble_eq_true rfl) (fun p e s m args below meth c A ls H locs B hP hD hS hl => ?_)
  obtain ⟨hx, hb, hml, hown, hts, hr, hlk, hnm, hK, hA, hN, hC⟩ := id B
  have hown : s.vm.findClass RX7 = some m.cls := hown
  have hl : lv_has ls 2 [(0, .ref h), (1, .int x1)] := hl
  have w_0 : (Cond.fieldLink RX7 36 "WishSeaModel" "faultKind" "I").before args s = true := hts _ (List.mem_of_getElem? (i := 1) rfl)
  have w_1 : (Cond.fieldLink RX7 23 "WishSeaModel" "signAt" "I").before args s = true := hts _ (List.mem_of_getElem? (i := 2) rfl)
  have hinX7 : ∀ w ∈ u_ws RX7 TX7 92, w ∈ wsX7_counts := fun _ h => List.mem_cons_of_mem _ (List.mem_append_right _ h)
  refine lv_aload_n hx hb dX7_counts_0 rfl (lv_at hl 0 rfl) ?_
  have f_1_1 : iR (i 8) 0 6 := hI 8
  refine k_get (D := (dC, dI)) (ci := 7) (v := .int (i 8)) (C := RX7) (T := TX7) (N := 92) hx hb hts hinX7 hown hK hP 0 rfl rfl 8 (by decide) w_0 rfl rfl dX7_counts_1 ?_
  refine lv_if_ne (tgt := 21) hx hb dX7_counts_4 (by decide) (fun c_4 => ?_) (fun c_4 => ?_)
  · have c_4 : ¬ (i 8) = 0 := c_4
    have f_21_2 : iR (i 8) 1 6 := iR_neL c_4 f_1_1 (iR_c (n := 0) (by decide +kernel) (by decide +kernel)) (by decide +kernel)
    refine lv_aload_n hx hb dX7_counts_21 rfl (lv_at hl 0 rfl) ?_
    refine k_get (D := (dC, dI)) (ci := 7) (v := .int (i 8)) (C := RX7) (T := TX7) (N := 92) hx hb hts hinX7 hown hK hP 0 rfl rfl 8 (by decide) w_0 rfl rfl dX7_counts_22 ?_
    refine lv_if_ne (tgt := 32) hx hb dX7_counts_25 (by decide) (fun c_25p4 => ?_) (fun c_25p4 => ?_)
    · have c_25p4 : ¬ (i 8) = 0 := c_25p4
      refine lv_aload_n hx hb dX7_counts_32 rfl (lv_at hl 0 rfl) ?_
      refine k_get (D := (dC, dI)) (ci := 7) (v := .int (i 8)) (C := RX7) (T := TX7) (N := 92) hx hb hts hinX7 hown hK hP 0 rfl rfl 8 (by decide) w_0 rfl rfl dX7_counts_33 ?_
      refine lv_if_ne (tgt := 43) hx hb dX7_counts_36 (by decide) (fun c_36p4p25 => ?_) (fun c_36p4p25 => ?_)
      · have c_36p4p25 : ¬ (i 8) = 0 := c_36p4p25
        refine lv_iconst (v := 0) hx hb dX7_counts_43 (by decide +kernel) ?_
        exact k_ri B hP hD hS dX7_counts_44 ((fun k9 => match k9 with | 0 => (i 3) | 1 => (i 4) | 2 => (i 5) | 3 => (i 6) | 4 => (i 8) | 5 => (i 9) | 6 => (i 12) | _ => 0), (fun k9 => match k9 with | 0 => (j 7) | _ => 0), (fun _ => (fun _ => 0)), (fun _ => (fun _ => 0)), (fun _ => 0)) [0, 1] rfl rfl rfl (Nat.le_of_ble_eq_true rfl) (Nat.le_of_ble_eq_true rfl) ⟨(iR_c (n := 0) (by decide +kernel) (by decide +kernel)), (hI 3), (hI 4), (hI 5), (iR_w f_21_2 (by decide +kernel))⟩
      · exact iR_cl (iR_eqL (a' := 1) (b' := 0) c_36p4p25 f_21_2 (iR_c (n := 0) (by decide +kernel) (by decide +kernel)) (by decide +kernel)) (by decide +kernel)
    · exact iR_cl (iR_eqL (a' := 1) (b' := 0) c_25p4 f_21_2 (iR_c (n := 0) (by decide +kernel) (by decide +kernel)) (by decide +kernel)) (by decide +kernel)
  · have c_4 : (i 8) = 0 := c_4
    have f_7_2 : iR (i 8) 0 0 := iR_eqL c_4 f_1_1 (iR_c (n := 0) (by decide +kernel) (by decide +kernel)) (by decide +kernel)
    refine lv_iload_n hx hb dX7_counts_7 rfl (lv_at hl 1 rfl) ?_
    refine lv_if_eq (tgt := 21) hx hb dX7_counts_8 (by decide) (fun c_8 => ?_) (fun c_8 => ?_)
    · have c_8 : x1 = 0 := c_8
      have f_21_3 : iR x1 0 0 := iR_eqL c_8 (iR_top _) (iR_c (n := 0) (by decide +kernel) (by decide +kernel)) (by decide +kernel)
      refine lv_aload_n hx hb dX7_counts_21 rfl (lv_at hl 0 rfl) ?_
      refine k_get (D := (dC, dI)) (ci := 7) (v := .int (i 8)) (C := RX7) (T := TX7) (N := 92) hx hb hts hinX7 hown hK hP 0 rfl rfl 8 (by decide) w_0 rfl rfl dX7_counts_22 ?_
      refine lv_if_ne (tgt := 32) hx hb dX7_counts_25 (by decide) (fun c_25p8 => ?_) (fun c_25p8 => ?_)
      · exact absurd (i_eqc f_7_2 (iR_c (n := 0) (by decide +kernel) (by decide +kernel))) c_25p8
      · have c_25p8 : (i 8) = 0 := c_25p8
        refine lv_aload_n hx hb dX7_counts_28 rfl (lv_at hl 0 rfl) ?_
        refine k_cv (wc := [(h, .inr (7, oM r i j)), ((r 0), .inl (cI, 1800, .inl f0))]) (wr := []) (fun hPc hDc hFc => va_runV (As := []) (rest := []) ⟨hx, hb, hml, hown, hts⟩ (s_X7_ahead_v1 l dC dI cI cJ cZ cM h r i j f0 hI hf0 H.size) (cwV 0 hts gX7_counts_X7_ahead rfl rfl rfl (by decide +kernel) ⟨(Nat.le_of_ble_eq_true rfl), (Nat.le_of_ble_eq_true rfl)⟩) (k_pV hPc hDc hK hN hC hS hFc hP (q0 := 0) (ci := 7) rfl rfl) rfl rfl hl.1 rfl (lv_room (Nat.le_of_ble_eq_true rfl)) dX7_counts_29 ⟨(Nat.le_of_ble_eq_true rfl), (Nat.le_of_ble_eq_true rfl)⟩) hP hD hS hA [0, 1] [] rfl rfl rfl rfl (by decide) (fun _ => rfl) 0 0 rfl rfl (fun u_29p8 H locs hw hP hD hS => ?_)
        obtain ⟨g_29p8_0, g_29p8_1, g_29p8_2, g_29p8_3⟩ := hw
        have hP : va_P (dC, dI) vwCl [(h, .inr (7, oM r (upd (upd (upd (upd (upd i 3 (u_29p8.1 0)) 4 (u_29p8.1 1)) 5 (u_29p8.1 2)) 6 (u_29p8.1 3)) 12 (u_29p8.1 4)) (vp_updL j 7 (u_29p8.2.1 0)))), ((r 0), .inl (cI, 1800, .inl f0))] H := hP
        have hD : va_D A [(h, .inr (7, oM r (upd (upd (upd (upd (upd i 3 (u_29p8.1 0)) 4 (u_29p8.1 1)) 5 (u_29p8.1 2)) 6 (u_29p8.1 3)) 12 (u_29p8.1 4)) (vp_updL j 7 (u_29p8.2.1 0)))), ((r 0), .inl (cI, 1800, .inl f0))] := hD
        refine lv_aload_n hx hb dX7_counts_32 rfl (lv_at hl 0 rfl) ?_
        refine k_get (D := (dC, dI)) (ci := 7) (v := .int (i 8)) (C := RX7) (T := TX7) (N := 92) hx hb hts hinX7 hown hK hP 0 rfl rfl 8 (by decide) w_0 rfl rfl dX7_counts_33 ?_
        refine lv_if_ne (tgt := 43) hx hb dX7_counts_36 (by decide) (fun c_36p8p29 => ?_) (fun c_36p8p29 => ?_)
        · exact absurd (i_eqc f_7_2 (iR_c (n := 0) (by decide +kernel) (by decide +kernel))) c_36p8p29
        · have c_36p8p29 : (i 8) = 0 := c_36p8p29
          refine lv_iconst (v := 1) hx hb dX7_counts_39 (by decide +kernel) ?_
          refine lv_goto (tgt := 44) hx hb dX7_counts_40 (by decide) ?_
          exact k_ri B hP hD hS dX7_counts_44 ((fun k9 => match k9 with | 0 => (u_29p8.1 0) | 1 => (u_29p8.1 1) | 2 => (u_29p8.1 2) | 3 => (u_29p8.1 3) | 4 => (i 8) | 5 => (i 9) | 6 => (u_29p8.1 4) | _ => 0), (fun k9 => match k9 with | 0 => (u_29p8.2.1 0) | _ => 0), (fun _ => (fun _ => 0)), (fun _ => (fun _ => 0)), (fun _ => 0)) [0, 1] rfl rfl rfl (Nat.le_of_ble_eq_true rfl) (Nat.le_of_ble_eq_true rfl) ⟨(iR_c (n := 1) (by decide +kernel) (by decide +kernel)), g_29p8_0, g_29p8_1, g_29p8_2, (iR_w f_7_2 (by decide +kernel))⟩
    · have c_8 : ¬ x1 = 0 := c_8
      refine lv_aload_n hx hb dX7_counts_11 rfl (lv_at hl 0 rfl) ?_
      refine lv_bipush (v := 6) hx hb dX7_counts_12 (by decide +kernel) ?_
      refine lv_aload_n hx hb dX7_counts_14 rfl (lv_at hl 0 rfl) ?_
      have f_15_3 : iR (i 4) 0 1600 := hI 4
      refine k_get (D := (dC, dI)) (ci := 7) (v := .int (i 4)) (C := RX7) (T := TX7) (N := 92) hx hb hts hinX7 hown hK hP 0 rfl rfl 4 (by decide) w_1 rfl rfl dX7_counts_15 ?_
      refine k_cv (wc := [(h, .inr (7, oM r i j))]) (wr := [((r 0), .inl (cI, 1800, .inl f0))]) (fun hPc hDc hFc => va_runV (As := [.int 6, .int (i 4)]) (rest := []) ⟨hx, hb, hml, hown, hts⟩ (s_X7_blame_v2 l dC dI cI cJ cZ cM h r i j 6 (i 4) (iR_c (n := 6) (by decide +kernel) (by decide +kernel)) hI H.size) (cwV 2 hts gX7_counts_X7_blame rfl rfl rfl (by decide +kernel) ⟨(Nat.le_of_ble_eq_true rfl), (Nat.le_of_ble_eq_true rfl)⟩) (k_pV hPc hDc hK hN hC hS hFc hP (q0 := 0) (ci := 7) rfl rfl) rfl rfl hl.1 rfl (lv_room (Nat.le_of_ble_eq_true rfl)) dX7_counts_18 ⟨(Nat.le_of_ble_eq_true rfl), (Nat.le_of_ble_eq_true rfl)⟩) hP hD hS hA [0] [1] rfl rfl rfl rfl (by decide) (fun _ => rfl) 0 0 rfl rfl (fun u_18 H locs hw hP hD hS => ?_)
      obtain g_18_0 := hw
      have hP : va_P (dC, dI) vwCl [((r 0), .inl (cI, 1800, .inl f0)), (h, .inr (7, oM r (upd (upd i 8 (u_18.1 0)) 9 (u_18.1 1)) j))] H := hP
      have hD : va_D A [((r 0), .inl (cI, 1800, .inl f0)), (h, .inr (7, oM r (upd (upd i 8 (u_18.1 0)) 9 (u_18.1 1)) j))] := hD
      refine lv_aload_n hx hb dX7_counts_21 rfl (lv_at hl 0 rfl) ?_
      refine k_get (D := (dC, dI)) (ci := 7) (v := .int (u_18.1 0)) (C := RX7) (T := TX7) (N := 92) hx hb hts hinX7 hown hK hP 1 rfl rfl 8 (by decide) w_0 rfl rfl dX7_counts_22 ?_
      refine lv_if_ne (tgt := 32) hx hb dX7_counts_25 (by decide) (fun c_25p18 => ?_) (fun c_25p18 => ?_)
      · have c_25p18 : ¬ (u_18.1 0) = 0 := c_25p18
        refine lv_aload_n hx hb dX7_counts_32 rfl (lv_at hl 0 rfl) ?_
        refine k_get (D := (dC, dI)) (ci := 7) (v := .int (u_18.1 0)) (C := RX7) (T := TX7) (N := 92) hx hb hts hinX7 hown hK hP 1 rfl rfl 8 (by decide) w_0 rfl rfl dX7_counts_33 ?_
        refine lv_if_ne (tgt := 43) hx hb dX7_counts_36 (by decide) (fun c_36p18p25 => ?_) (fun c_36p18p25 => ?_)
        · have c_36p18p25 : ¬ (u_18.1 0) = 0 := c_36p18p25
          refine lv_iconst (v := 0) hx hb dX7_counts_43 (by decide +kernel) ?_
          exact k_ri B hP hD hS dX7_counts_44 ((fun k9 => match k9 with | 0 => (i 3) | 1 => (i 4) | 2 => (i 5) | 3 => (i 6) | 4 => (u_18.1 0) | 5 => (u_18.1 1) | 6 => (i 12) | _ => 0), (fun k9 => match k9 with | 0 => (j 7) | _ => 0), (fun _ => (fun _ => 0)), (fun _ => (fun _ => 0)), (fun _ => 0)) [1, 0] rfl rfl rfl (Nat.le_of_ble_eq_true rfl) (Nat.le_of_ble_eq_true rfl) ⟨(iR_c (n := 0) (by decide +kernel) (by decide +kernel)), (hI 3), f_15_3, (hI 5), (iR_w g_18_0 (by decide +kernel))⟩
        · exact iR_cl (iR_eqL (a' := 1) (b' := 0) c_36p18p25 g_18_0 (iR_c (n := 0) (by decide +kernel) (by decide +kernel)) (by decide +kernel)) (by decide +kernel)
      · exact iR_cl (iR_eqL (a' := 1) (b' := 0) c_25p18 g_18_0 (iR_c (n := 0) (by decide +kernel) (by decide +kernel)) (by decide +kernel)) (by decide +kernel)
set_option maxHeartbeats 8000000 in
set_option maxRecDepth 100000 in
theorem s_X7_put_v0 (l : Launch) (dC : Nat → ClassId) (dI : Nat → Nat → Nat) (cI cJ cZ cM : ClassId) (h : Nat) (r : Nat → Nat) (i : Nat → Int32) (j : Nat → Int64) (x1 : Int32) (f0 : Nat → Int32) (hm1 : iR (i 1) 0 1596) (hI : mR i) (hf0 : aR f0 0 255) : k_Mv l yX7_put wsX7_put ({ frames := 1, cells := 0, slots := 0, locals := 40 }) (dC, dI) vwCl (tyy cI cJ cZ cM) [(h, .inr (7, oM r i j)), ((r 0), .inl (cI, 1800, .inl f0))] [.ref h, .int x1] 0 0 (fun (u9 : SU) => [(h, .inr (7, oM r (upd i 1 (u9.1 0)) j)), ((r 0), .inl (cI, 1800, .inl (u9.2.2.1 0)))]) (fun (u9 : SU) => (iR (u9.1 0) 4 1600) ∧ (aR (u9.2.2.1 0) 0 255)) := by
  refine fun sz => k_enter (cc := cX7_put) (maxL := 3) (ret := none) (Qc := fun A => va_Qv (fun (u9 : SU) => (iR (u9.1 0) 4 1600) ∧ (aR (u9.2.2.1 0) 0 255)) (fun u => k_B (dC, dI) vwCl (tyy cI cJ cZ cM) A ((fun (u9 : SU) => [(h, .inr (7, oM r (upd i 1 (u9.1 0)) j)), ((r 0), .inl (cI, 1800, .inl (u9.2.2.1 0)))]) u)) A) sz (by decide +kernel) rfl (Nat.le_of_ble_eq_true rfl) (fun p e s m args below meth c A ls H locs B hP hD hS hl => ?_)
  obtain ⟨hx, hb, hml, hown, hts, hr, hlk, hnm, hK, hA, hN, hC⟩ := id B
  have hown : s.vm.findClass RX7 = some m.cls := hown
  have hl : lv_has ls 3 [(0, .ref h), (1, .int x1)] := hl
  have w_0 : (Cond.fieldLink RX7 7 "WishSeaModel" "tape" "[I").before args s = true := hts _ (List.mem_of_getElem? (i := 1) rfl)
  have w_1 : (Cond.fieldLink RX7 13 "WishSeaModel" "taped" "I").before args s = true := hts _ (List.mem_of_getElem? (i := 2) rfl)
  have hinX7 : ∀ w ∈ u_ws RX7 TX7 92, w ∈ wsX7_put := fun _ h => List.mem_cons_of_mem _ (List.mem_append_right _ h)
  refine lv_bipush (v := 24) hx hb dX7_put_0 (by decide +kernel) ?_
  refine lv_istore_n (lv' := [(2, .int 24), (0, .ref h), (1, .int x1)]) hx hb dX7_put_2 rfl hl (by decide) rfl (fun ls hl => ?_)
  refine lv_iload_n hx hb dX7_put_3 rfl (lv_at hl 0 rfl) ?_
  refine lv_if_lt (tgt := 39) hx hb dX7_put_4 (by decide) (fun q9 => absurd q9 (by decide +kernel)) (fun _ => ?_)
  refine lv_aload_n hx hb dX7_put_7 rfl (lv_at hl 1 rfl) ?_
  refine k_get (D := (dC, dI)) (ci := 7) (v := .ref (r 0)) (C := RX7) (T := TX7) (N := 92) hx hb hts hinX7 hown hK hP 0 rfl rfl 0 (by decide) w_0 rfl rfl dX7_put_8 ?_
  refine lv_aload_n hx hb dX7_put_11 rfl (lv_at hl 1 rfl) ?_
  refine k_get (D := (dC, dI)) (ci := 7) (v := .int (i 1)) (C := RX7) (T := TX7) (N := 92) hx hb hts hinX7 hown hK hP 0 rfl rfl 1 (by decide) w_1 rfl rfl dX7_put_12 ?_
  refine lv_iload_n hx hb dX7_put_15 rfl (lv_at hl 2 rfl) ?_
  refine lv_iload_n hx hb dX7_put_16 rfl (lv_at hl 0 rfl) ?_
  refine lv_ishr hx hb dX7_put_17 ?_
  refine lv_topi (fun y_17p2 ey_17p2 => ?_)
  refine lv_sipush (v := 255) hx hb dX7_put_18 (by decide +kernel) ?_
  refine lv_iand hx hb dX7_put_21 ?_
  refine lv_topi (fun y_21p2 ey_21p2 => ?_)
  have f_21p2_1 : iR y_21p2 0 255 := iR_andR ey_21p2 (iR_c (n := 255) (by decide +kernel) (by decide +kernel)) (by decide +kernel)
  refine s_iast (g := (upd f0 (i 1).toNatClampNeg y_21p2)) (ws' := [(h, .inr (7, oM r i j)), ((r 0), .inl (cI, 1800, .inl (upd f0 (i 1).toNatClampNeg y_21p2)))]) hx hb hK hP hD hS 1 0 rfl rfl (iR_vp hm1 (by decide +kernel)) rfl rfl dX7_put_22 (fun H locs hP hD hS => ?_)
  refine lv_aload_n hx hb dX7_put_23 rfl (lv_at hl 1 rfl) ?_
  refine lv_dup hx hb dX7_put_24 rfl ?_
  refine k_get (D := (dC, dI)) (ci := 7) (v := .int (i 1)) (C := RX7) (T := TX7) (N := 92) hx hb hts hinX7 hown hK hP 0 rfl rfl 1 (by decide) w_1 rfl rfl dX7_put_25 ?_
  refine lv_iconst (v := 1) hx hb dX7_put_28 (by decide +kernel) ?_
  refine lv_iadd hx hb dX7_put_29 ?_
  refine lv_topi (fun y_29p2 ey_29p2 => ?_)
  have f_29p2_2 : iR y_29p2 1 1597 := iR_add ey_29p2 hm1 (iR_c (n := 1) (by decide +kernel) (by decide +kernel)) (by decide +kernel)
  refine k_put (D := (dC, dI)) (ci := 7) (v := .int y_29p2) (C := RX7) (T := TX7) (N := 92) (ws' := [(h, .inr (7, oM r (upd i 1 y_29p2) j)), ((r 0), .inl (cI, 1800, .inl (upd f0 (i 1).toNatClampNeg y_21p2)))]) hx hb hts hinX7 tyX7 tyX7_ok nmX7 hown hK hP hD hS 0 rfl rfl 1 (by decide) w_1 rfl rfl rfl rfl (Nat.le_of_ble_eq_true rfl) rfl dX7_put_30 (fun H locs hP hD hS => ?_)
  refine lv_iinc (v := 16) (lv' := [(2, .int 16), (0, .ref h), (1, .int x1)]) hx hb dX7_put_33 hl (k := 0) rfl (by decide +kernel) (by decide) rfl (fun ls hl => ?_)
  refine lv_goto (tgt := 3) hx hb dX7_put_36 (by decide) ?_
  refine lv_iload_n hx hb dX7_put_3 rfl (lv_at hl 0 rfl) ?_
  refine lv_if_lt (tgt := 39) hx hb dX7_put_4 (by decide) (fun q9 => absurd q9 (by decide +kernel)) (fun _ => ?_)
  refine lv_aload_n hx hb dX7_put_7 rfl (lv_at hl 1 rfl) ?_
  refine k_get (D := (dC, dI)) (ci := 7) (v := .ref (r 0)) (C := RX7) (T := TX7) (N := 92) hx hb hts hinX7 hown hK hP 0 rfl rfl 0 (by decide) w_0 rfl rfl dX7_put_8 ?_
  refine lv_aload_n hx hb dX7_put_11 rfl (lv_at hl 1 rfl) ?_
  refine k_get (D := (dC, dI)) (ci := 7) (v := .int y_29p2) (C := RX7) (T := TX7) (N := 92) hx hb hts hinX7 hown hK hP 0 rfl rfl 1 (by decide) w_1 rfl rfl dX7_put_12 ?_
  refine lv_iload_n hx hb dX7_put_15 rfl (lv_at hl 2 rfl) ?_
  refine lv_iload_n hx hb dX7_put_16 rfl (lv_at hl 0 rfl) ?_
  refine lv_ishr hx hb dX7_put_17 ?_
  refine lv_topi (fun y_17p2p36 ey_17p2p36 => ?_)
  refine lv_sipush (v := 255) hx hb dX7_put_18 (by decide +kernel) ?_
  refine lv_iand hx hb dX7_put_21 ?_
  refine lv_topi (fun y_21p2p36 ey_21p2p36 => ?_)
  have f_21p2p36_3 : iR y_21p2p36 0 255 := iR_andR ey_21p2p36 (iR_c (n := 255) (by decide +kernel) (by decide +kernel)) (by decide +kernel)
  refine s_iast (g := (upd (upd f0 (i 1).toNatClampNeg y_21p2) y_29p2.toNatClampNeg y_21p2p36)) (ws' := [(h, .inr (7, oM r (upd i 1 y_29p2) j)), ((r 0), .inl (cI, 1800, .inl (upd (upd f0 (i 1).toNatClampNeg y_21p2) y_29p2.toNatClampNeg y_21p2p36)))]) hx hb hK hP hD hS 1 0 rfl rfl (iR_vp f_29p2_2 (by decide +kernel)) rfl rfl dX7_put_22 (fun H locs hP hD hS => ?_)
  refine lv_aload_n hx hb dX7_put_23 rfl (lv_at hl 1 rfl) ?_
  refine lv_dup hx hb dX7_put_24 rfl ?_
  refine k_get (D := (dC, dI)) (ci := 7) (v := .int y_29p2) (C := RX7) (T := TX7) (N := 92) hx hb hts hinX7 hown hK hP 0 rfl rfl 1 (by decide) w_1 rfl rfl dX7_put_25 ?_
  refine lv_iconst (v := 1) hx hb dX7_put_28 (by decide +kernel) ?_
  refine lv_iadd hx hb dX7_put_29 ?_
  refine lv_topi (fun y_29p2p36 ey_29p2p36 => ?_)
  have f_29p2p36_4 : iR y_29p2p36 2 1598 := iR_add ey_29p2p36 f_29p2_2 (iR_c (n := 1) (by decide +kernel) (by decide +kernel)) (by decide +kernel)
  refine k_put (D := (dC, dI)) (ci := 7) (v := .int y_29p2p36) (C := RX7) (T := TX7) (N := 92) (ws' := [(h, .inr (7, oM r (upd i 1 y_29p2p36) j)), ((r 0), .inl (cI, 1800, .inl (upd (upd f0 (i 1).toNatClampNeg y_21p2) y_29p2.toNatClampNeg y_21p2p36)))]) hx hb hts hinX7 tyX7 tyX7_ok nmX7 hown hK hP hD hS 0 rfl rfl 1 (by decide) w_1 rfl rfl rfl rfl (Nat.le_of_ble_eq_true rfl) rfl dX7_put_30 (fun H locs hP hD hS => ?_)
  refine lv_iinc (v := 8) (lv' := [(2, .int 8), (0, .ref h), (1, .int x1)]) hx hb dX7_put_33 hl (k := 0) rfl (by decide +kernel) (by decide) rfl (fun ls hl => ?_)
  refine lv_goto (tgt := 3) hx hb dX7_put_36 (by decide) ?_
  refine lv_iload_n hx hb dX7_put_3 rfl (lv_at hl 0 rfl) ?_
  refine lv_if_lt (tgt := 39) hx hb dX7_put_4 (by decide) (fun q9 => absurd q9 (by decide +kernel)) (fun _ => ?_)
  refine lv_aload_n hx hb dX7_put_7 rfl (lv_at hl 1 rfl) ?_
  refine k_get (D := (dC, dI)) (ci := 7) (v := .ref (r 0)) (C := RX7) (T := TX7) (N := 92) hx hb hts hinX7 hown hK hP 0 rfl rfl 0 (by decide) w_0 rfl rfl dX7_put_8 ?_
  refine lv_aload_n hx hb dX7_put_11 rfl (lv_at hl 1 rfl) ?_
  refine k_get (D := (dC, dI)) (ci := 7) (v := .int y_29p2p36) (C := RX7) (T := TX7) (N := 92) hx hb hts hinX7 hown hK hP 0 rfl rfl 1 (by decide) w_1 rfl rfl dX7_put_12 ?_
  refine lv_iload_n hx hb dX7_put_15 rfl (lv_at hl 2 rfl) ?_
  refine lv_iload_n hx hb dX7_put_16 rfl (lv_at hl 0 rfl) ?_
  refine lv_ishr hx hb dX7_put_17 ?_
  refine lv_topi (fun y_17p2p36p36 ey_17p2p36p36 => ?_)
  refine lv_sipush (v := 255) hx hb dX7_put_18 (by decide +kernel) ?_
  refine lv_iand hx hb dX7_put_21 ?_
  refine lv_topi (fun y_21p2p36p36 ey_21p2p36p36 => ?_)
  have f_21p2p36p36_5 : iR y_21p2p36p36 0 255 := iR_andR ey_21p2p36p36 (iR_c (n := 255) (by decide +kernel) (by decide +kernel)) (by decide +kernel)
  refine s_iast (g := (upd (upd (upd f0 (i 1).toNatClampNeg y_21p2) y_29p2.toNatClampNeg y_21p2p36) y_29p2p36.toNatClampNeg y_21p2p36p36)) (ws' := [(h, .inr (7, oM r (upd i 1 y_29p2p36) j)), ((r 0), .inl (cI, 1800, .inl (upd (upd (upd f0 (i 1).toNatClampNeg y_21p2) y_29p2.toNatClampNeg y_21p2p36) y_29p2p36.toNatClampNeg y_21p2p36p36)))]) hx hb hK hP hD hS 1 0 rfl rfl (iR_vp f_29p2p36_4 (by decide +kernel)) rfl rfl dX7_put_22 (fun H locs hP hD hS => ?_)
  refine lv_aload_n hx hb dX7_put_23 rfl (lv_at hl 1 rfl) ?_
  refine lv_dup hx hb dX7_put_24 rfl ?_
  refine k_get (D := (dC, dI)) (ci := 7) (v := .int y_29p2p36) (C := RX7) (T := TX7) (N := 92) hx hb hts hinX7 hown hK hP 0 rfl rfl 1 (by decide) w_1 rfl rfl dX7_put_25 ?_
  refine lv_iconst (v := 1) hx hb dX7_put_28 (by decide +kernel) ?_
  refine lv_iadd hx hb dX7_put_29 ?_
  refine lv_topi (fun y_29p2p36p36 ey_29p2p36p36 => ?_)
  have f_29p2p36p36_6 : iR y_29p2p36p36 3 1599 := iR_add ey_29p2p36p36 f_29p2p36_4 (iR_c (n := 1) (by decide +kernel) (by decide +kernel)) (by decide +kernel)
  refine k_put (D := (dC, dI)) (ci := 7) (v := .int y_29p2p36p36) (C := RX7) (T := TX7) (N := 92) (ws' := [(h, .inr (7, oM r (upd i 1 y_29p2p36p36) j)), ((r 0), .inl (cI, 1800, .inl (upd (upd (upd f0 (i 1).toNatClampNeg y_21p2) y_29p2.toNatClampNeg y_21p2p36) y_29p2p36.toNatClampNeg y_21p2p36p36)))]) hx hb hts hinX7 tyX7 tyX7_ok nmX7 hown hK hP hD hS 0 rfl rfl 1 (by decide) w_1 rfl rfl rfl rfl (Nat.le_of_ble_eq_true rfl) rfl dX7_put_30 (fun H locs hP hD hS => ?_)
  refine lv_iinc (v := 0) (lv' := [(2, .int 0), (0, .ref h), (1, .int x1)]) hx hb dX7_put_33 hl (k := 0) rfl (by decide +kernel) (by decide) rfl (fun ls hl => ?_)
  refine lv_goto (tgt := 3) hx hb dX7_put_36 (by decide) ?_
  refine lv_iload_n hx hb dX7_put_3 rfl (lv_at hl 0 rfl) ?_
  refine lv_if_lt (tgt := 39) hx hb dX7_put_4 (by decide) (fun q9 => absurd q9 (by decide +kernel)) (fun _ => ?_)
  refine lv_aload_n hx hb dX7_put_7 rfl (lv_at hl 1 rfl) ?_
  refine k_get (D := (dC, dI)) (ci := 7) (v := .ref (r 0)) (C := RX7) (T := TX7) (N := 92) hx hb hts hinX7 hown hK hP 0 rfl rfl 0 (by decide) w_0 rfl rfl dX7_put_8 ?_
  refine lv_aload_n hx hb dX7_put_11 rfl (lv_at hl 1 rfl) ?_
  refine k_get (D := (dC, dI)) (ci := 7) (v := .int y_29p2p36p36) (C := RX7) (T := TX7) (N := 92) hx hb hts hinX7 hown hK hP 0 rfl rfl 1 (by decide) w_1 rfl rfl dX7_put_12 ?_
  refine lv_iload_n hx hb dX7_put_15 rfl (lv_at hl 2 rfl) ?_
  refine lv_iload_n hx hb dX7_put_16 rfl (lv_at hl 0 rfl) ?_
  refine lv_ishr hx hb dX7_put_17 ?_
  refine lv_topi (fun y_17p2p36p36p36 ey_17p2p36p36p36 => ?_)
  refine lv_sipush (v := 255) hx hb dX7_put_18 (by decide +kernel) ?_
  refine lv_iand hx hb dX7_put_21 ?_
  refine lv_topi (fun y_21p2p36p36p36 ey_21p2p36p36p36 => ?_)
  have f_21p2p36p36p36_7 : iR y_21p2p36p36p36 0 255 := iR_andR ey_21p2p36p36p36 (iR_c (n := 255) (by decide +kernel) (by decide +kernel)) (by decide +kernel)
  refine s_iast (g := (upd (upd (upd (upd f0 (i 1).toNatClampNeg y_21p2) y_29p2.toNatClampNeg y_21p2p36) y_29p2p36.toNatClampNeg y_21p2p36p36) y_29p2p36p36.toNatClampNeg y_21p2p36p36p36)) (ws' := [(h, .inr (7, oM r (upd i 1 y_29p2p36p36) j)), ((r 0), .inl (cI, 1800, .inl (upd (upd (upd (upd f0 (i 1).toNatClampNeg y_21p2) y_29p2.toNatClampNeg y_21p2p36) y_29p2p36.toNatClampNeg y_21p2p36p36) y_29p2p36p36.toNatClampNeg y_21p2p36p36p36)))]) hx hb hK hP hD hS 1 0 rfl rfl (iR_vp f_29p2p36p36_6 (by decide +kernel)) rfl rfl dX7_put_22 (fun H locs hP hD hS => ?_)
  refine lv_aload_n hx hb dX7_put_23 rfl (lv_at hl 1 rfl) ?_
  refine lv_dup hx hb dX7_put_24 rfl ?_
  refine k_get (D := (dC, dI)) (ci := 7) (v := .int y_29p2p36p36) (C := RX7) (T := TX7) (N := 92) hx hb hts hinX7 hown hK hP 0 rfl rfl 1 (by decide) w_1 rfl rfl dX7_put_25 ?_
  refine lv_iconst (v := 1) hx hb dX7_put_28 (by decide +kernel) ?_
  refine lv_iadd hx hb dX7_put_29 ?_
  refine lv_topi (fun y_29p2p36p36p36 ey_29p2p36p36p36 => ?_)
  have f_29p2p36p36p36_8 : iR y_29p2p36p36p36 4 1600 := iR_add ey_29p2p36p36p36 f_29p2p36p36_6 (iR_c (n := 1) (by decide +kernel) (by decide +kernel)) (by decide +kernel)
  refine k_put (D := (dC, dI)) (ci := 7) (v := .int y_29p2p36p36p36) (C := RX7) (T := TX7) (N := 92) (ws' := [(h, .inr (7, oM r (upd i 1 y_29p2p36p36p36) j)), ((r 0), .inl (cI, 1800, .inl (upd (upd (upd (upd f0 (i 1).toNatClampNeg y_21p2) y_29p2.toNatClampNeg y_21p2p36) y_29p2p36.toNatClampNeg y_21p2p36p36) y_29p2p36p36.toNatClampNeg y_21p2p36p36p36)))]) hx hb hts hinX7 tyX7 tyX7_ok nmX7 hown hK hP hD hS 0 rfl rfl 1 (by decide) w_1 rfl rfl rfl rfl (Nat.le_of_ble_eq_true rfl) rfl dX7_put_30 (fun H locs hP hD hS => ?_)
  refine lv_iinc (v := (-8)) (lv' := [(2, .int (-8)), (0, .ref h), (1, .int x1)]) hx hb dX7_put_33 hl (k := 0) rfl (by decide +kernel) (by decide) rfl (fun ls hl => ?_)
  refine lv_goto (tgt := 3) hx hb dX7_put_36 (by decide) ?_
  refine lv_iload_n hx hb dX7_put_3 rfl (lv_at hl 0 rfl) ?_
  refine lv_if_lt (tgt := 39) hx hb dX7_put_4 (by decide) (fun _ => ?_) (fun q9 => absurd q9 (by decide +kernel))
  exact k_rv B hP hD hS dX7_put_39 ((fun k9 => match k9 with | 0 => y_29p2p36p36p36 | _ => 0), (fun _ => 0), (fun k9 => match k9 with | 0 => (upd (upd (upd (upd f0 (i 1).toNatClampNeg y_21p2) y_29p2.toNatClampNeg y_21p2p36) y_29p2p36.toNatClampNeg y_21p2p36p36) y_29p2p36p36.toNatClampNeg y_21p2p36p36p36) | _ => (fun _ => 0)), (fun _ => (fun _ => 0)), (fun _ => 0)) [0, 1] rfl rfl (Nat.le_of_ble_eq_true rfl) (Nat.le_of_ble_eq_true rfl) ⟨f_29p2p36p36p36_8, (aR_upd _ (aR_upd _ (aR_upd _ (aR_upd _ hf0 f_21p2_1) f_21p2p36_3) f_21p2p36p36_5) f_21p2p36p36p36_7)⟩
set_option maxHeartbeats 8000000 in
set_option maxRecDepth 100000 in
theorem s_X7_ring_v3 (l : Launch) (dC : Nat → ClassId) (dI : Nat → Nat → Nat) (cI cJ cZ cM : ClassId) (h : Nat) (r : Nat → Nat) (i : Nat → Int32) (j : Nat → Int64) (x1 : Int32) (hx1 : iR x1 0 20) (hI : mR i) : k_Mi l yX7_ring wsX7_ring ({ frames := 1, cells := 0, slots := 0, locals := 40 }) (dC, dI) vwCl (tyy cI cJ cZ cM) [(h, .inr (7, oM r i j))] [.ref h, .int x1] 0 0 (fun (u9 : Unit) => [(h, .inr (7, oM r i j))]) (fun (r9 : Int32) (u9 : Unit) => (iR r9 2 21)) := by
  refine fun sz => k_enter (cc := cX7_ring) (maxL := 2) (ret := some (.int)) (Qc := fun A => va_Qi (fun (r9 : Int32) (u9 : Unit) => (iR r9 2 21)) (fun u => k_B (dC, dI) vwCl (tyy cI cJ cZ cM) A ((fun (u9 : Unit) => [(h, .inr (7, oM r i j))]) u)) A) sz (by decide +kernel) rfl (Nat.le_of_ble_eq_true rfl) (fun p e s m args below meth c A ls H locs B hP hD hS hl => ?_)
  obtain ⟨hx, hb, hml, hown, hts, hr, hlk, hnm, hK, hA, hN, hC⟩ := id B
  have hown : s.vm.findClass RX7 = some m.cls := hown
  have hl : lv_has ls 2 [(0, .ref h), (1, .int x1)] := hl
  have w_0 : (Cond.fieldLink RX7 189 "WishSeaModel" "undoFirst" "I").before args s = true := hts _ (List.mem_of_getElem? (i := 1) rfl)
  have hinX7 : ∀ w ∈ u_ws RX7 TX7 92, w ∈ wsX7_ring := fun _ h => List.mem_cons_of_mem _ (List.mem_append_right _ h)
  refine lv_iconst (v := 2) hx hb dX7_ring_0 (by decide +kernel) ?_
  refine lv_aload_n hx hb dX7_ring_1 rfl (lv_at hl 0 rfl) ?_
  have f_2_1 : iR (i 58) 0 19 := hI 58
  refine k_get (D := (dC, dI)) (ci := 7) (v := .int (i 58)) (C := RX7) (T := TX7) (N := 92) hx hb hts hinX7 hown hK hP 0 rfl rfl 58 (by decide) w_0 rfl rfl dX7_ring_2 ?_
  refine lv_iload_n hx hb dX7_ring_5 rfl (lv_at hl 1 rfl) ?_
  refine lv_iadd hx hb dX7_ring_6 ?_
  refine lv_topi (fun y_6 ey_6 => ?_)
  have f_6_2 : iR y_6 0 39 := iR_add ey_6 f_2_1 hx1 (by decide +kernel)
  refine lv_bipush (v := 20) hx hb dX7_ring_7 (by decide +kernel) ?_
  refine lv_irem hx hb dX7_ring_9 (i_nz (iR_c (n := 20) (by decide +kernel) (by decide +kernel)) (by decide +kernel)) ?_
  refine lv_topi (fun y_9 ey_9 => ?_)
  have f_9_3 : iR y_9 0 19 := iR_rem ey_9 f_6_2 (iR_c (n := 20) (by decide +kernel) (by decide +kernel)) (by decide +kernel)
  refine lv_iadd hx hb dX7_ring_10 ?_
  refine lv_topi (fun y_10 ey_10 => ?_)
  have f_10_4 : iR y_10 2 21 := iR_add ey_10 (iR_c (n := 2) (by decide +kernel) (by decide +kernel)) f_9_3 (by decide +kernel)
  exact k_ri B hP hD hS dX7_ring_11 () [0] rfl rfl rfl (Nat.le_of_ble_eq_true rfl) (Nat.le_of_ble_eq_true rfl) f_10_4
set_option maxHeartbeats 8000000 in
set_option maxRecDepth 100000 in
theorem s_X7_copies_v3 (l : Launch) (dC : Nat → ClassId) (dI : Nat → Nat → Nat) (cI cJ cZ cM : ClassId) (h : Nat) (r : Nat → Nat) (i : Nat → Int32) (j : Nat → Int64) (x1 : Int32) (x2 : Int32) (f49 : Nat → Int32) (f50 : Nat → Int32) (f51 : Nat → Int32) (f52 : Nat → Int32) (f53 : Nat → Int32) (f54 : Nat → Int32) (f55 : Nat → Int32) (f56 : Nat → Int32) (f57 : Nat → Int32) (hx1 : iR x1 0 21) (hx2 : iR x2 0 21) (hI : mR i) (hf49 : aR f49 0 1023) (hf50 : aR f50 0 999) (hf53 : aR f53 0 50) : k_Mv l yX7_copies wsX7_copies ({ frames := 1, cells := 0, slots := 0, locals := 40 }) (dC, dI) vwCl (tyy cI cJ cZ cM) [(h, .inr (7, oM r i j)), ((r 49), .inl (cI, 22, .inl f49)), ((r 50), .inl (cI, 22, .inl f50)), ((r 51), .inl (cI, 22, .inl f51)), ((r 52), .inl (cI, 22, .inl f52)), ((r 53), .inl (cI, 22, .inl f53)), ((r 54), .inl (cI, 1100, .inl f54)), ((r 55), .inl (cI, 1100, .inl f55)), ((r 56), .inl (cI, 1100, .inl f56)), ((r 57), .inl (cI, 1100, .inl f57))] [.ref h, .int x1, .int x2] 0 0 (fun (u9 : SU) => [(h, .inr (7, oM r i j)), ((r 49), .inl (cI, 22, .inl (upd f49 x1.toNatClampNeg (f49 x2.toNatClampNeg)))), ((r 50), .inl (cI, 22, .inl (upd f50 x1.toNatClampNeg (f50 x2.toNatClampNeg)))), ((r 51), .inl (cI, 22, .inl (upd f51 x1.toNatClampNeg (f51 x2.toNatClampNeg)))), ((r 52), .inl (cI, 22, .inl (upd f52 x1.toNatClampNeg (f52 x2.toNatClampNeg)))), ((r 53), .inl (cI, 22, .inl (upd f53 x1.toNatClampNeg (f53 x2.toNatClampNeg)))), ((r 54), .inl (cI, 1100, .inl (u9.2.2.1 0))), ((r 55), .inl (cI, 1100, .inl (u9.2.2.1 1))), ((r 56), .inl (cI, 1100, .inl (u9.2.2.1 2))), ((r 57), .inl (cI, 1100, .inl (u9.2.2.1 3)))]) (fun (u9 : SU) => True) := by
  refine fun sz => k_enter (cc := cX7_copies) (maxL := 4) (ret := none) (Qc := fun A => va_Qv (fun (u9 : SU) => True) (fun u => k_B (dC, dI) vwCl (tyy cI cJ cZ cM) A ((fun (u9 : SU) => [(h, .inr (7, oM r i j)), ((r 49), .inl (cI, 22, .inl (upd f49 x1.toNatClampNeg (f49 x2.toNatClampNeg)))), ((r 50), .inl (cI, 22, .inl (upd f50 x1.toNatClampNeg (f50 x2.toNatClampNeg)))), ((r 51), .inl (cI, 22, .inl (upd f51 x1.toNatClampNeg (f51 x2.toNatClampNeg)))), ((r 52), .inl (cI, 22, .inl (upd f52 x1.toNatClampNeg (f52 x2.toNatClampNeg)))), ((r 53), .inl (cI, 22, .inl (upd f53 x1.toNatClampNeg (f53 x2.toNatClampNeg)))), ((r 54), .inl (cI, 1100, .inl (u9.2.2.1 0))), ((r 55), .inl (cI, 1100, .inl (u9.2.2.1 1))), ((r 56), .inl (cI, 1100, .inl (u9.2.2.1 2))), ((r 57), .inl (cI, 1100, .inl (u9.2.2.1 3)))]) u)) A) sz (by decide +kernel) rfl (Nat.le_of_ble_eq_true rfl) (fun p e s m args below meth c A ls H locs B hP hD hS hl => ?_)
  obtain ⟨hx, hb, hml, hown, hts, hr, hlk, hnm, hK, hA, hN, hC⟩ := id B
  have hown : s.vm.findClass RX7 = some m.cls := hown
  have hl : lv_has ls 4 [(0, .ref h), (1, .int x1), (2, .int x2)] := hl
  have w_0 : (Cond.fieldLink RX7 162 "WishSeaModel" "hadOf" "[I").before args s = true := hts _ (List.mem_of_getElem? (i := 1) rfl)
  have w_1 : (Cond.fieldLink RX7 165 "WishSeaModel" "seaOf" "[I").before args s = true := hts _ (List.mem_of_getElem? (i := 2) rfl)
  have w_2 : (Cond.fieldLink RX7 168 "WishSeaModel" "saidOf" "[I").before args s = true := hts _ (List.mem_of_getElem? (i := 3) rfl)
  have w_3 : (Cond.fieldLink RX7 171 "WishSeaModel" "dayOf" "[I").before args s = true := hts _ (List.mem_of_getElem? (i := 4) rfl)
  have w_4 : (Cond.fieldLink RX7 174 "WishSeaModel" "keptMany" "[I").before args s = true := hts _ (List.mem_of_getElem? (i := 5) rfl)
  have w_5 : (Cond.fieldLink RX7 177 "WishSeaModel" "keptDay" "[I").before args s = true := hts _ (List.mem_of_getElem? (i := 6) rfl)
  have w_6 : (Cond.fieldLink RX7 180 "WishSeaModel" "keptWish" "[I").before args s = true := hts _ (List.mem_of_getElem? (i := 7) rfl)
  have w_7 : (Cond.fieldLink RX7 183 "WishSeaModel" "keptSea" "[I").before args s = true := hts _ (List.mem_of_getElem? (i := 8) rfl)
  have w_8 : (Cond.fieldLink RX7 186 "WishSeaModel" "keptFell" "[I").before args s = true := hts _ (List.mem_of_getElem? (i := 9) rfl)
  have hinX7 : ∀ w ∈ u_ws RX7 TX7 92, w ∈ wsX7_copies := fun _ h => List.mem_cons_of_mem _ (List.mem_append_right _ h)
  refine lv_aload_n hx hb dX7_copies_0 rfl (lv_at hl 0 rfl) ?_
  refine k_get (D := (dC, dI)) (ci := 7) (v := .ref (r 49)) (C := RX7) (T := TX7) (N := 92) hx hb hts hinX7 hown hK hP 0 rfl rfl 49 (by decide) w_0 rfl rfl dX7_copies_1 ?_
  refine lv_iload_n hx hb dX7_copies_4 rfl (lv_at hl 1 rfl) ?_
  refine lv_aload_n hx hb dX7_copies_5 rfl (lv_at hl 0 rfl) ?_
  refine k_get (D := (dC, dI)) (ci := 7) (v := .ref (r 49)) (C := RX7) (T := TX7) (N := 92) hx hb hts hinX7 hown hK hP 0 rfl rfl 49 (by decide) w_0 rfl rfl dX7_copies_6 ?_
  refine lv_iload_n hx hb dX7_copies_9 rfl (lv_at hl 2 rfl) ?_
  refine va_iald hx hb hK hP 1 0 rfl rfl (iR_vp hx2 (by decide +kernel)) dX7_copies_10 ?_
  have f_10_1 : iR (f49 x2.toNatClampNeg) 0 1023 := hf49 _
  refine s_iast (g := (upd f49 x1.toNatClampNeg (f49 x2.toNatClampNeg))) (ws' := [(h, .inr (7, oM r i j)), ((r 49), .inl (cI, 22, .inl (upd f49 x1.toNatClampNeg (f49 x2.toNatClampNeg)))), ((r 50), .inl (cI, 22, .inl f50)), ((r 51), .inl (cI, 22, .inl f51)), ((r 52), .inl (cI, 22, .inl f52)), ((r 53), .inl (cI, 22, .inl f53)), ((r 54), .inl (cI, 1100, .inl f54)), ((r 55), .inl (cI, 1100, .inl f55)), ((r 56), .inl (cI, 1100, .inl f56)), ((r 57), .inl (cI, 1100, .inl f57))]) hx hb hK hP hD hS 1 0 rfl rfl (iR_vp hx1 (by decide +kernel)) rfl rfl dX7_copies_11 (fun H locs hP hD hS => ?_)
  refine lv_aload_n hx hb dX7_copies_12 rfl (lv_at hl 0 rfl) ?_
  refine k_get (D := (dC, dI)) (ci := 7) (v := .ref (r 50)) (C := RX7) (T := TX7) (N := 92) hx hb hts hinX7 hown hK hP 0 rfl rfl 50 (by decide) w_1 rfl rfl dX7_copies_13 ?_
  refine lv_iload_n hx hb dX7_copies_16 rfl (lv_at hl 1 rfl) ?_
  refine lv_aload_n hx hb dX7_copies_17 rfl (lv_at hl 0 rfl) ?_
  refine k_get (D := (dC, dI)) (ci := 7) (v := .ref (r 50)) (C := RX7) (T := TX7) (N := 92) hx hb hts hinX7 hown hK hP 0 rfl rfl 50 (by decide) w_1 rfl rfl dX7_copies_18 ?_
  refine lv_iload_n hx hb dX7_copies_21 rfl (lv_at hl 2 rfl) ?_
  refine va_iald hx hb hK hP 2 0 rfl rfl (iR_vp hx2 (by decide +kernel)) dX7_copies_22 ?_
  have f_22_2 : iR (f50 x2.toNatClampNeg) 0 999 := hf50 _
  refine s_iast (g := (upd f50 x1.toNatClampNeg (f50 x2.toNatClampNeg))) (ws' := [(h, .inr (7, oM r i j)), ((r 49), .inl (cI, 22, .inl (upd f49 x1.toNatClampNeg (f49 x2.toNatClampNeg)))), ((r 50), .inl (cI, 22, .inl (upd f50 x1.toNatClampNeg (f50 x2.toNatClampNeg)))), ((r 51), .inl (cI, 22, .inl f51)), ((r 52), .inl (cI, 22, .inl f52)), ((r 53), .inl (cI, 22, .inl f53)), ((r 54), .inl (cI, 1100, .inl f54)), ((r 55), .inl (cI, 1100, .inl f55)), ((r 56), .inl (cI, 1100, .inl f56)), ((r 57), .inl (cI, 1100, .inl f57))]) hx hb hK hP hD hS 2 0 rfl rfl (iR_vp hx1 (by decide +kernel)) rfl rfl dX7_copies_23 (fun H locs hP hD hS => ?_)
  refine lv_aload_n hx hb dX7_copies_24 rfl (lv_at hl 0 rfl) ?_
  refine k_get (D := (dC, dI)) (ci := 7) (v := .ref (r 51)) (C := RX7) (T := TX7) (N := 92) hx hb hts hinX7 hown hK hP 0 rfl rfl 51 (by decide) w_2 rfl rfl dX7_copies_25 ?_
  refine lv_iload_n hx hb dX7_copies_28 rfl (lv_at hl 1 rfl) ?_
  refine lv_aload_n hx hb dX7_copies_29 rfl (lv_at hl 0 rfl) ?_
  refine k_get (D := (dC, dI)) (ci := 7) (v := .ref (r 51)) (C := RX7) (T := TX7) (N := 92) hx hb hts hinX7 hown hK hP 0 rfl rfl 51 (by decide) w_2 rfl rfl dX7_copies_30 ?_
  refine lv_iload_n hx hb dX7_copies_33 rfl (lv_at hl 2 rfl) ?_
  refine va_iald hx hb hK hP 3 0 rfl rfl (iR_vp hx2 (by decide +kernel)) dX7_copies_34 ?_
  refine s_iast (g := (upd f51 x1.toNatClampNeg (f51 x2.toNatClampNeg))) (ws' := [(h, .inr (7, oM r i j)), ((r 49), .inl (cI, 22, .inl (upd f49 x1.toNatClampNeg (f49 x2.toNatClampNeg)))), ((r 50), .inl (cI, 22, .inl (upd f50 x1.toNatClampNeg (f50 x2.toNatClampNeg)))), ((r 51), .inl (cI, 22, .inl (upd f51 x1.toNatClampNeg (f51 x2.toNatClampNeg)))), ((r 52), .inl (cI, 22, .inl f52)), ((r 53), .inl (cI, 22, .inl f53)), ((r 54), .inl (cI, 1100, .inl f54)), ((r 55), .inl (cI, 1100, .inl f55)), ((r 56), .inl (cI, 1100, .inl f56)), ((r 57), .inl (cI, 1100, .inl f57))]) hx hb hK hP hD hS 3 0 rfl rfl (iR_vp hx1 (by decide +kernel)) rfl rfl dX7_copies_35 (fun H locs hP hD hS => ?_)
  refine lv_aload_n hx hb dX7_copies_36 rfl (lv_at hl 0 rfl) ?_
  refine k_get (D := (dC, dI)) (ci := 7) (v := .ref (r 52)) (C := RX7) (T := TX7) (N := 92) hx hb hts hinX7 hown hK hP 0 rfl rfl 52 (by decide) w_3 rfl rfl dX7_copies_37 ?_
  refine lv_iload_n hx hb dX7_copies_40 rfl (lv_at hl 1 rfl) ?_
  refine lv_aload_n hx hb dX7_copies_41 rfl (lv_at hl 0 rfl) ?_
  refine k_get (D := (dC, dI)) (ci := 7) (v := .ref (r 52)) (C := RX7) (T := TX7) (N := 92) hx hb hts hinX7 hown hK hP 0 rfl rfl 52 (by decide) w_3 rfl rfl dX7_copies_42 ?_
  refine lv_iload_n hx hb dX7_copies_45 rfl (lv_at hl 2 rfl) ?_
  refine va_iald hx hb hK hP 4 0 rfl rfl (iR_vp hx2 (by decide +kernel)) dX7_copies_46 ?_
  refine s_iast (g := (upd f52 x1.toNatClampNeg (f52 x2.toNatClampNeg))) (ws' := [(h, .inr (7, oM r i j)), ((r 49), .inl (cI, 22, .inl (upd f49 x1.toNatClampNeg (f49 x2.toNatClampNeg)))), ((r 50), .inl (cI, 22, .inl (upd f50 x1.toNatClampNeg (f50 x2.toNatClampNeg)))), ((r 51), .inl (cI, 22, .inl (upd f51 x1.toNatClampNeg (f51 x2.toNatClampNeg)))), ((r 52), .inl (cI, 22, .inl (upd f52 x1.toNatClampNeg (f52 x2.toNatClampNeg)))), ((r 53), .inl (cI, 22, .inl f53)), ((r 54), .inl (cI, 1100, .inl f54)), ((r 55), .inl (cI, 1100, .inl f55)), ((r 56), .inl (cI, 1100, .inl f56)), ((r 57), .inl (cI, 1100, .inl f57))]) hx hb hK hP hD hS 4 0 rfl rfl (iR_vp hx1 (by decide +kernel)) rfl rfl dX7_copies_47 (fun H locs hP hD hS => ?_)
  refine lv_aload_n hx hb dX7_copies_48 rfl (lv_at hl 0 rfl) ?_
  refine k_get (D := (dC, dI)) (ci := 7) (v := .ref (r 53)) (C := RX7) (T := TX7) (N := 92) hx hb hts hinX7 hown hK hP 0 rfl rfl 53 (by decide) w_4 rfl rfl dX7_copies_49 ?_
  refine lv_iload_n hx hb dX7_copies_52 rfl (lv_at hl 1 rfl) ?_
  refine lv_aload_n hx hb dX7_copies_53 rfl (lv_at hl 0 rfl) ?_
  refine k_get (D := (dC, dI)) (ci := 7) (v := .ref (r 53)) (C := RX7) (T := TX7) (N := 92) hx hb hts hinX7 hown hK hP 0 rfl rfl 53 (by decide) w_4 rfl rfl dX7_copies_54 ?_
  refine lv_iload_n hx hb dX7_copies_57 rfl (lv_at hl 2 rfl) ?_
  refine va_iald hx hb hK hP 5 0 rfl rfl (iR_vp hx2 (by decide +kernel)) dX7_copies_58 ?_
  have f_58_3 : iR (f53 x2.toNatClampNeg) 0 50 := hf53 _
  refine s_iast (g := (upd f53 x1.toNatClampNeg (f53 x2.toNatClampNeg))) (ws' := [(h, .inr (7, oM r i j)), ((r 49), .inl (cI, 22, .inl (upd f49 x1.toNatClampNeg (f49 x2.toNatClampNeg)))), ((r 50), .inl (cI, 22, .inl (upd f50 x1.toNatClampNeg (f50 x2.toNatClampNeg)))), ((r 51), .inl (cI, 22, .inl (upd f51 x1.toNatClampNeg (f51 x2.toNatClampNeg)))), ((r 52), .inl (cI, 22, .inl (upd f52 x1.toNatClampNeg (f52 x2.toNatClampNeg)))), ((r 53), .inl (cI, 22, .inl (upd f53 x1.toNatClampNeg (f53 x2.toNatClampNeg)))), ((r 54), .inl (cI, 1100, .inl f54)), ((r 55), .inl (cI, 1100, .inl f55)), ((r 56), .inl (cI, 1100, .inl f56)), ((r 57), .inl (cI, 1100, .inl f57))]) hx hb hK hP hD hS 5 0 rfl rfl (iR_vp hx1 (by decide +kernel)) rfl rfl dX7_copies_59 (fun H locs hP hD hS => ?_)
  refine lv_iconst (v := 0) hx hb dX7_copies_60 (by decide +kernel) ?_
  have J_62 : ∀ (n_62 : Nat) (j62_A6 : Nat → Int32) (j62_A7 : Nat → Int32) (j62_A8 : Nat → Int32) (j62_A9 : Nat → Int32) (j62_L3 : Int32) (hj62_L3 : iR j62_L3 0 50) (hm_62 : (50 - j62_L3.toInt).toNat < n_62) (H : Heap) (locs : List Loc) (ls : Array Slot), va_P (dC, dI) vwCl [(h, .inr (7, oM r i j)), ((r 49), .inl (cI, 22, .inl (upd f49 x1.toNatClampNeg (f49 x2.toNatClampNeg)))), ((r 50), .inl (cI, 22, .inl (upd f50 x1.toNatClampNeg (f50 x2.toNatClampNeg)))), ((r 51), .inl (cI, 22, .inl (upd f51 x1.toNatClampNeg (f51 x2.toNatClampNeg)))), ((r 52), .inl (cI, 22, .inl (upd f52 x1.toNatClampNeg (f52 x2.toNatClampNeg)))), ((r 53), .inl (cI, 22, .inl (upd f53 x1.toNatClampNeg (f53 x2.toNatClampNeg)))), ((r 54), .inl (cI, 1100, .inl j62_A6)), ((r 55), .inl (cI, 1100, .inl j62_A7)), ((r 56), .inl (cI, 1100, .inl j62_A8)), ((r 57), .inl (cI, 1100, .inl j62_A9))] H → va_D A [(h, .inr (7, oM r i j)), ((r 49), .inl (cI, 22, .inl (upd f49 x1.toNatClampNeg (f49 x2.toNatClampNeg)))), ((r 50), .inl (cI, 22, .inl (upd f50 x1.toNatClampNeg (f50 x2.toNatClampNeg)))), ((r 51), .inl (cI, 22, .inl (upd f51 x1.toNatClampNeg (f51 x2.toNatClampNeg)))), ((r 52), .inl (cI, 22, .inl (upd f52 x1.toNatClampNeg (f52 x2.toNatClampNeg)))), ((r 53), .inl (cI, 22, .inl (upd f53 x1.toNatClampNeg (f53 x2.toNatClampNeg)))), ((r 54), .inl (cI, 1100, .inl j62_A6)), ((r 55), .inl (cI, 1100, .inl j62_A7)), ((r 56), .inl (cI, 1100, .inl j62_A8)), ((r 57), .inl (cI, 1100, .inl j62_A9))] → va_S A s.heap H locs → lv_has ls 4 [(0, .ref h), (1, .int x1), (2, .int x2), (3, .int j62_L3)] → W p l e ({ frames := 1, cells := 0, slots := 0, locals := 40 }) s m args below meth c H locs 0 0 (MQ below (va_Qv (fun (u9 : SU) => True) (fun u => k_B (dC, dI) vwCl (tyy cI cJ cZ cM) A ((fun (u9 : SU) => [(h, .inr (7, oM r i j)), ((r 49), .inl (cI, 22, .inl (upd f49 x1.toNatClampNeg (f49 x2.toNatClampNeg)))), ((r 50), .inl (cI, 22, .inl (upd f50 x1.toNatClampNeg (f50 x2.toNatClampNeg)))), ((r 51), .inl (cI, 22, .inl (upd f51 x1.toNatClampNeg (f51 x2.toNatClampNeg)))), ((r 52), .inl (cI, 22, .inl (upd f52 x1.toNatClampNeg (f52 x2.toNatClampNeg)))), ((r 53), .inl (cI, 22, .inl (upd f53 x1.toNatClampNeg (f53 x2.toNatClampNeg)))), ((r 54), .inl (cI, 1100, .inl (u9.2.2.1 0))), ((r 55), .inl (cI, 1100, .inl (u9.2.2.1 1))), ((r 56), .inl (cI, 1100, .inl (u9.2.2.1 2))), ((r 57), .inl (cI, 1100, .inl (u9.2.2.1 3)))]) u)) A) args s 0 0 A) (F0 m 62 ls []) := by
    intro n_62
    induction n_62 with
    | zero => intro j62_A6 j62_A7 j62_A8 j62_A9 j62_L3 hj62_L3 hm_62; exact absurd hm_62 (Nat.not_lt_zero _)
    | succ n_62 ih_62 =>
      intro j62_A6 j62_A7 j62_A8 j62_A9 j62_L3 hj62_L3 hm_62 H locs ls hP hD hS hl
      refine lv_iload_n hx hb dX7_copies_62 rfl (lv_at hl 3 rfl) ?_
      refine lv_aload_n hx hb dX7_copies_63 rfl (lv_at hl 0 rfl) ?_
      refine k_get (D := (dC, dI)) (ci := 7) (v := .ref (r 53)) (C := RX7) (T := TX7) (N := 92) hx hb hts hinX7 hown hK hP 0 rfl rfl 53 (by decide) w_4 rfl rfl dX7_copies_64 ?_
      refine lv_iload_n hx hb dX7_copies_67 rfl (lv_at hl 2 rfl) ?_
      refine va_iald hx hb hK hP 5 0 rfl rfl (iR_vp hx2 (by decide +kernel)) dX7_copies_68 ?_
      refine lv_topi (fun y_68 ey_68 => ?_)
      have f_68_1 : iR y_68 0 50 := iR_of ey_68 ((aR_upd _ hf53 f_58_3) _)
      refine lv_icmp_ge (tgt := 166) hx hb dX7_copies_69 (by decide) (fun c_69 => ?_) (fun c_69 => ?_)
      · have c_69 : y_68 ≤ j62_L3 := c_69
        exact k_rv B hP hD hS dX7_copies_166 ((fun _ => 0), (fun _ => 0), (fun k9 => match k9 with | 0 => j62_A6 | 1 => j62_A7 | 2 => j62_A8 | 3 => j62_A9 | _ => (fun _ => 0)), (fun _ => (fun _ => 0)), (fun _ => 0)) [0, 1, 2, 3, 4, 5, 6, 7, 8, 9] rfl rfl (Nat.le_of_ble_eq_true rfl) (Nat.le_of_ble_eq_true rfl) trivial
      · have c_69 : j62_L3 < y_68 := i_nle c_69
        have f_72_2 : iR j62_L3 0 49 := iR_ltL c_69 hj62_L3 f_68_1 (by decide +kernel)
        have f_72_3 : iR y_68 1 50 := iR_ltR c_69 hj62_L3 f_68_1 (by decide +kernel)
        refine lv_aload_n hx hb dX7_copies_72 rfl (lv_at hl 0 rfl) ?_
        refine k_get (D := (dC, dI)) (ci := 7) (v := .ref (r 54)) (C := RX7) (T := TX7) (N := 92) hx hb hts hinX7 hown hK hP 0 rfl rfl 54 (by decide) w_5 rfl rfl dX7_copies_73 ?_
        refine lv_bipush (v := 50) hx hb dX7_copies_76 (by decide +kernel) ?_
        refine lv_iload_n hx hb dX7_copies_78 rfl (lv_at hl 1 rfl) ?_
        refine lv_imul hx hb dX7_copies_79 ?_
        refine lv_topi (fun y_79 ey_79 => ?_)
        have f_79_4 : iR y_79 0 1050 := iR_mul ey_79 (iR_c (n := 50) (by decide +kernel) (by decide +kernel)) hx1 (by decide +kernel)
        refine lv_iload_n hx hb dX7_copies_80 rfl (lv_at hl 3 rfl) ?_
        refine lv_iadd hx hb dX7_copies_81 ?_
        refine lv_topi (fun y_81 ey_81 => ?_)
        have f_81_5 : iR y_81 0 1099 := iR_add ey_81 f_79_4 f_72_2 (by decide +kernel)
        refine lv_aload_n hx hb dX7_copies_82 rfl (lv_at hl 0 rfl) ?_
        refine k_get (D := (dC, dI)) (ci := 7) (v := .ref (r 54)) (C := RX7) (T := TX7) (N := 92) hx hb hts hinX7 hown hK hP 0 rfl rfl 54 (by decide) w_5 rfl rfl dX7_copies_83 ?_
        refine lv_bipush (v := 50) hx hb dX7_copies_86 (by decide +kernel) ?_
        refine lv_iload_n hx hb dX7_copies_88 rfl (lv_at hl 2 rfl) ?_
        refine lv_imul hx hb dX7_copies_89 ?_
        refine lv_topi (fun y_89 ey_89 => ?_)
        have f_89_6 : iR y_89 0 1050 := iR_mul ey_89 (iR_c (n := 50) (by decide +kernel) (by decide +kernel)) hx2 (by decide +kernel)
        refine lv_iload_n hx hb dX7_copies_90 rfl (lv_at hl 3 rfl) ?_
        refine lv_iadd hx hb dX7_copies_91 ?_
        refine lv_topi (fun y_91 ey_91 => ?_)
        have f_91_7 : iR y_91 0 1099 := iR_add ey_91 f_89_6 f_72_2 (by decide +kernel)
        refine va_iald hx hb hK hP 6 0 rfl rfl (iR_vp f_91_7 (by decide +kernel)) dX7_copies_92 ?_
        refine s_iast (g := (upd j62_A6 y_81.toNatClampNeg (j62_A6 y_91.toNatClampNeg))) (ws' := [(h, .inr (7, oM r i j)), ((r 49), .inl (cI, 22, .inl (upd f49 x1.toNatClampNeg (f49 x2.toNatClampNeg)))), ((r 50), .inl (cI, 22, .inl (upd f50 x1.toNatClampNeg (f50 x2.toNatClampNeg)))), ((r 51), .inl (cI, 22, .inl (upd f51 x1.toNatClampNeg (f51 x2.toNatClampNeg)))), ((r 52), .inl (cI, 22, .inl (upd f52 x1.toNatClampNeg (f52 x2.toNatClampNeg)))), ((r 53), .inl (cI, 22, .inl (upd f53 x1.toNatClampNeg (f53 x2.toNatClampNeg)))), ((r 54), .inl (cI, 1100, .inl (upd j62_A6 y_81.toNatClampNeg (j62_A6 y_91.toNatClampNeg)))), ((r 55), .inl (cI, 1100, .inl j62_A7)), ((r 56), .inl (cI, 1100, .inl j62_A8)), ((r 57), .inl (cI, 1100, .inl j62_A9))]) hx hb hK hP hD hS 6 0 rfl rfl (iR_vp f_81_5 (by decide +kernel)) rfl rfl dX7_copies_93 (fun H locs hP hD hS => ?_)
        refine lv_aload_n hx hb dX7_copies_94 rfl (lv_at hl 0 rfl) ?_
        refine k_get (D := (dC, dI)) (ci := 7) (v := .ref (r 55)) (C := RX7) (T := TX7) (N := 92) hx hb hts hinX7 hown hK hP 0 rfl rfl 55 (by decide) w_6 rfl rfl dX7_copies_95 ?_
        refine lv_bipush (v := 50) hx hb dX7_copies_98 (by decide +kernel) ?_
        refine lv_iload_n hx hb dX7_copies_100 rfl (lv_at hl 1 rfl) ?_
        refine lv_imul hx hb dX7_copies_101 ?_
        refine lv_topi (fun y_101 ey_101 => ?_)
        have f_101_8 : iR y_101 0 1050 := iR_mul ey_101 (iR_c (n := 50) (by decide +kernel) (by decide +kernel)) hx1 (by decide +kernel)
        refine lv_iload_n hx hb dX7_copies_102 rfl (lv_at hl 3 rfl) ?_
        refine lv_iadd hx hb dX7_copies_103 ?_
        refine lv_topi (fun y_103 ey_103 => ?_)
        have f_103_9 : iR y_103 0 1099 := iR_add ey_103 f_101_8 f_72_2 (by decide +kernel)
        refine lv_aload_n hx hb dX7_copies_104 rfl (lv_at hl 0 rfl) ?_
        refine k_get (D := (dC, dI)) (ci := 7) (v := .ref (r 55)) (C := RX7) (T := TX7) (N := 92) hx hb hts hinX7 hown hK hP 0 rfl rfl 55 (by decide) w_6 rfl rfl dX7_copies_105 ?_
        refine lv_bipush (v := 50) hx hb dX7_copies_108 (by decide +kernel) ?_
        refine lv_iload_n hx hb dX7_copies_110 rfl (lv_at hl 2 rfl) ?_
        refine lv_imul hx hb dX7_copies_111 ?_
        refine lv_topi (fun y_111 ey_111 => ?_)
        have f_111_10 : iR y_111 0 1050 := iR_mul ey_111 (iR_c (n := 50) (by decide +kernel) (by decide +kernel)) hx2 (by decide +kernel)
        refine lv_iload_n hx hb dX7_copies_112 rfl (lv_at hl 3 rfl) ?_
        refine lv_iadd hx hb dX7_copies_113 ?_
        refine lv_topi (fun y_113 ey_113 => ?_)
        have f_113_11 : iR y_113 0 1099 := iR_add ey_113 f_111_10 f_72_2 (by decide +kernel)
        refine va_iald hx hb hK hP 7 0 rfl rfl (iR_vp f_113_11 (by decide +kernel)) dX7_copies_114 ?_
        refine s_iast (g := (upd j62_A7 y_103.toNatClampNeg (j62_A7 y_113.toNatClampNeg))) (ws' := [(h, .inr (7, oM r i j)), ((r 49), .inl (cI, 22, .inl (upd f49 x1.toNatClampNeg (f49 x2.toNatClampNeg)))), ((r 50), .inl (cI, 22, .inl (upd f50 x1.toNatClampNeg (f50 x2.toNatClampNeg)))), ((r 51), .inl (cI, 22, .inl (upd f51 x1.toNatClampNeg (f51 x2.toNatClampNeg)))), ((r 52), .inl (cI, 22, .inl (upd f52 x1.toNatClampNeg (f52 x2.toNatClampNeg)))), ((r 53), .inl (cI, 22, .inl (upd f53 x1.toNatClampNeg (f53 x2.toNatClampNeg)))), ((r 54), .inl (cI, 1100, .inl (upd j62_A6 y_81.toNatClampNeg (j62_A6 y_91.toNatClampNeg)))), ((r 55), .inl (cI, 1100, .inl (upd j62_A7 y_103.toNatClampNeg (j62_A7 y_113.toNatClampNeg)))), ((r 56), .inl (cI, 1100, .inl j62_A8)), ((r 57), .inl (cI, 1100, .inl j62_A9))]) hx hb hK hP hD hS 7 0 rfl rfl (iR_vp f_103_9 (by decide +kernel)) rfl rfl dX7_copies_115 (fun H locs hP hD hS => ?_)
        refine lv_aload_n hx hb dX7_copies_116 rfl (lv_at hl 0 rfl) ?_
        refine k_get (D := (dC, dI)) (ci := 7) (v := .ref (r 56)) (C := RX7) (T := TX7) (N := 92) hx hb hts hinX7 hown hK hP 0 rfl rfl 56 (by decide) w_7 rfl rfl dX7_copies_117 ?_
        refine lv_bipush (v := 50) hx hb dX7_copies_120 (by decide +kernel) ?_
        refine lv_iload_n hx hb dX7_copies_122 rfl (lv_at hl 1 rfl) ?_
        refine lv_imul hx hb dX7_copies_123 ?_
        refine lv_topi (fun y_123 ey_123 => ?_)
        have f_123_12 : iR y_123 0 1050 := iR_mul ey_123 (iR_c (n := 50) (by decide +kernel) (by decide +kernel)) hx1 (by decide +kernel)
        refine lv_iload_n hx hb dX7_copies_124 rfl (lv_at hl 3 rfl) ?_
        refine lv_iadd hx hb dX7_copies_125 ?_
        refine lv_topi (fun y_125 ey_125 => ?_)
        have f_125_13 : iR y_125 0 1099 := iR_add ey_125 f_123_12 f_72_2 (by decide +kernel)
        refine lv_aload_n hx hb dX7_copies_126 rfl (lv_at hl 0 rfl) ?_
        refine k_get (D := (dC, dI)) (ci := 7) (v := .ref (r 56)) (C := RX7) (T := TX7) (N := 92) hx hb hts hinX7 hown hK hP 0 rfl rfl 56 (by decide) w_7 rfl rfl dX7_copies_127 ?_
        refine lv_bipush (v := 50) hx hb dX7_copies_130 (by decide +kernel) ?_
        refine lv_iload_n hx hb dX7_copies_132 rfl (lv_at hl 2 rfl) ?_
        refine lv_imul hx hb dX7_copies_133 ?_
        refine lv_topi (fun y_133 ey_133 => ?_)
        have f_133_14 : iR y_133 0 1050 := iR_mul ey_133 (iR_c (n := 50) (by decide +kernel) (by decide +kernel)) hx2 (by decide +kernel)
        refine lv_iload_n hx hb dX7_copies_134 rfl (lv_at hl 3 rfl) ?_
        refine lv_iadd hx hb dX7_copies_135 ?_
        refine lv_topi (fun y_135 ey_135 => ?_)
        have f_135_15 : iR y_135 0 1099 := iR_add ey_135 f_133_14 f_72_2 (by decide +kernel)
        refine va_iald hx hb hK hP 8 0 rfl rfl (iR_vp f_135_15 (by decide +kernel)) dX7_copies_136 ?_
        refine s_iast (g := (upd j62_A8 y_125.toNatClampNeg (j62_A8 y_135.toNatClampNeg))) (ws' := [(h, .inr (7, oM r i j)), ((r 49), .inl (cI, 22, .inl (upd f49 x1.toNatClampNeg (f49 x2.toNatClampNeg)))), ((r 50), .inl (cI, 22, .inl (upd f50 x1.toNatClampNeg (f50 x2.toNatClampNeg)))), ((r 51), .inl (cI, 22, .inl (upd f51 x1.toNatClampNeg (f51 x2.toNatClampNeg)))), ((r 52), .inl (cI, 22, .inl (upd f52 x1.toNatClampNeg (f52 x2.toNatClampNeg)))), ((r 53), .inl (cI, 22, .inl (upd f53 x1.toNatClampNeg (f53 x2.toNatClampNeg)))), ((r 54), .inl (cI, 1100, .inl (upd j62_A6 y_81.toNatClampNeg (j62_A6 y_91.toNatClampNeg)))), ((r 55), .inl (cI, 1100, .inl (upd j62_A7 y_103.toNatClampNeg (j62_A7 y_113.toNatClampNeg)))), ((r 56), .inl (cI, 1100, .inl (upd j62_A8 y_125.toNatClampNeg (j62_A8 y_135.toNatClampNeg)))), ((r 57), .inl (cI, 1100, .inl j62_A9))]) hx hb hK hP hD hS 8 0 rfl rfl (iR_vp f_125_13 (by decide +kernel)) rfl rfl dX7_copies_137 (fun H locs hP hD hS => ?_)
        refine lv_aload_n hx hb dX7_copies_138 rfl (lv_at hl 0 rfl) ?_
        refine k_get (D := (dC, dI)) (ci := 7) (v := .ref (r 57)) (C := RX7) (T := TX7) (N := 92) hx hb hts hinX7 hown hK hP 0 rfl rfl 57 (by decide) w_8 rfl rfl dX7_copies_139 ?_
        refine lv_bipush (v := 50) hx hb dX7_copies_142 (by decide +kernel) ?_
        refine lv_iload_n hx hb dX7_copies_144 rfl (lv_at hl 1 rfl) ?_
        refine lv_imul hx hb dX7_copies_145 ?_
        refine lv_topi (fun y_145 ey_145 => ?_)
        have f_145_16 : iR y_145 0 1050 := iR_mul ey_145 (iR_c (n := 50) (by decide +kernel) (by decide +kernel)) hx1 (by decide +kernel)
        refine lv_iload_n hx hb dX7_copies_146 rfl (lv_at hl 3 rfl) ?_
        refine lv_iadd hx hb dX7_copies_147 ?_
        refine lv_topi (fun y_147 ey_147 => ?_)
        have f_147_17 : iR y_147 0 1099 := iR_add ey_147 f_145_16 f_72_2 (by decide +kernel)
        refine lv_aload_n hx hb dX7_copies_148 rfl (lv_at hl 0 rfl) ?_
        refine k_get (D := (dC, dI)) (ci := 7) (v := .ref (r 57)) (C := RX7) (T := TX7) (N := 92) hx hb hts hinX7 hown hK hP 0 rfl rfl 57 (by decide) w_8 rfl rfl dX7_copies_149 ?_
        refine lv_bipush (v := 50) hx hb dX7_copies_152 (by decide +kernel) ?_
        refine lv_iload_n hx hb dX7_copies_154 rfl (lv_at hl 2 rfl) ?_
        refine lv_imul hx hb dX7_copies_155 ?_
        refine lv_topi (fun y_155 ey_155 => ?_)
        have f_155_18 : iR y_155 0 1050 := iR_mul ey_155 (iR_c (n := 50) (by decide +kernel) (by decide +kernel)) hx2 (by decide +kernel)
        refine lv_iload_n hx hb dX7_copies_156 rfl (lv_at hl 3 rfl) ?_
        refine lv_iadd hx hb dX7_copies_157 ?_
        refine lv_topi (fun y_157 ey_157 => ?_)
        have f_157_19 : iR y_157 0 1099 := iR_add ey_157 f_155_18 f_72_2 (by decide +kernel)
        refine va_iald hx hb hK hP 9 0 rfl rfl (iR_vp f_157_19 (by decide +kernel)) dX7_copies_158 ?_
        refine s_iast (g := (upd j62_A9 y_147.toNatClampNeg (j62_A9 y_157.toNatClampNeg))) (ws' := [(h, .inr (7, oM r i j)), ((r 49), .inl (cI, 22, .inl (upd f49 x1.toNatClampNeg (f49 x2.toNatClampNeg)))), ((r 50), .inl (cI, 22, .inl (upd f50 x1.toNatClampNeg (f50 x2.toNatClampNeg)))), ((r 51), .inl (cI, 22, .inl (upd f51 x1.toNatClampNeg (f51 x2.toNatClampNeg)))), ((r 52), .inl (cI, 22, .inl (upd f52 x1.toNatClampNeg (f52 x2.toNatClampNeg)))), ((r 53), .inl (cI, 22, .inl (upd f53 x1.toNatClampNeg (f53 x2.toNatClampNeg)))), ((r 54), .inl (cI, 1100, .inl (upd j62_A6 y_81.toNatClampNeg (j62_A6 y_91.toNatClampNeg)))), ((r 55), .inl (cI, 1100, .inl (upd j62_A7 y_103.toNatClampNeg (j62_A7 y_113.toNatClampNeg)))), ((r 56), .inl (cI, 1100, .inl (upd j62_A8 y_125.toNatClampNeg (j62_A8 y_135.toNatClampNeg)))), ((r 57), .inl (cI, 1100, .inl (upd j62_A9 y_147.toNatClampNeg (j62_A9 y_157.toNatClampNeg))))]) hx hb hK hP hD hS 9 0 rfl rfl (iR_vp f_147_17 (by decide +kernel)) rfl rfl dX7_copies_159 (fun H locs hP hD hS => ?_)
        obtain ⟨y_160, ey_160⟩ : ∃ y : Int32, y = j62_L3 + 1 := ⟨_, rfl⟩
        refine lv_iinc (v := y_160) (lv' := [(3, .int y_160), (0, .ref h), (1, .int x1), (2, .int x2)]) hx hb dX7_copies_160 hl (k := 3) rfl ey_160.symm (by decide) rfl (fun ls hl => ?_)
        have f_160_20 : iR y_160 1 50 := iR_add ey_160 f_72_2 (iR_c (n := 1) (by decide +kernel) (by decide +kernel)) (by decide +kernel)
        refine lv_goto (tgt := 62) hx hb dX7_copies_163 (by decide) ?_
        exact ih_62 (upd j62_A6 y_81.toNatClampNeg (j62_A6 y_91.toNatClampNeg)) (upd j62_A7 y_103.toNatClampNeg (j62_A7 y_113.toNatClampNeg)) (upd j62_A8 y_125.toNatClampNeg (j62_A8 y_135.toNatClampNeg)) (upd j62_A9 y_147.toNatClampNeg (j62_A9 y_157.toNatClampNeg)) y_160 (iR_w f_160_20 (by decide +kernel)) (m_up (B := 50) hm_62 ey_160 f_72_2 (by decide +kernel)) H locs ls hP hD hS (lv_sub hl [1, 2, 3, 0] rfl)
  refine lv_istore_n (lv' := [(3, .int 0), (0, .ref h), (1, .int x1), (2, .int x2)]) hx hb dX7_copies_61 rfl hl (by decide) rfl (fun ls hl => ?_)
  exact J_62 _ f54 f55 f56 f57 0 (iR_c (n := 0) (by decide +kernel) (by decide +kernel)) (Nat.lt_succ_self _) H locs ls hP hD hS (lv_sub hl [1, 2, 3, 0] rfl)
set_option maxHeartbeats 8000000 in
set_option maxRecDepth 100000 in
theorem s_X7_refuses_v3 (l : Launch) (dC : Nat → ClassId) (dI : Nat → Nat → Nat) (cI cJ cZ cM : ClassId) (h : Nat) (r : Nat → Nat) (i : Nat → Int32) (j : Nat → Int64) (x1 : Int32) (f48 : Nat → Int32) (hx1 : iR x1 0 5) (hI : mR i) : k_Mi l yX7_refuses wsX7_refuses ({ frames := 1, cells := 0, slots := 0, locals := 40 }) (dC, dI) vwCl (tyy cI cJ cZ cM) [(h, .inr (7, oM r i j)), ((r 48), .inl (cI, 6, .inl f48))] [.ref h, .int x1] 0 0 (fun (u9 : SU) => [(h, .inr (7, oM r i j)), ((r 48), .inl (cI, 6, .inl (u9.2.2.1 0)))]) (fun (r9 : Int32) (u9 : SU) => (r9 = (-1))) := by
  refine fun sz => k_enter (cc := cX7_refuses) (maxL := 2) (ret := some (.int)) (Qc := fun A => va_Qi (fun (r9 : Int32) (u9 : SU) => (r9 = (-1))) (fun u => k_B (dC, dI) vwCl (tyy cI cJ cZ cM) A ((fun (u9 : SU) => [(h, .inr (7, oM r i j)), ((r 48), .inl (cI, 6, .inl (u9.2.2.1 0)))]) u)) A) sz (by decide +kernel) rfl (Nat.le_of_ble_eq_true rfl) (fun p e s m args below meth c A ls H locs B hP hD hS hl => ?_)
  obtain ⟨hx, hb, hml, hown, hts, hr, hlk, hnm, hK, hA, hN, hC⟩ := id B
  have hown : s.vm.findClass RX7 = some m.cls := hown
  have hl : lv_has ls 2 [(0, .ref h), (1, .int x1)] := hl
  have w_0 : (Cond.fieldLink RX7 159 "WishSeaModel" "refused" "[I").before args s = true := hts _ (List.mem_of_getElem? (i := 1) rfl)
  have hinX7 : ∀ w ∈ u_ws RX7 TX7 92, w ∈ wsX7_refuses := fun _ h => List.mem_cons_of_mem _ (List.mem_append_right _ h)
  refine lv_aload_n hx hb dX7_refuses_0 rfl (lv_at hl 0 rfl) ?_
  refine k_get (D := (dC, dI)) (ci := 7) (v := .ref (r 48)) (C := RX7) (T := TX7) (N := 92) hx hb hts hinX7 hown hK hP 0 rfl rfl 48 (by decide) w_0 rfl rfl dX7_refuses_1 ?_
  refine lv_iload_n hx hb dX7_refuses_4 rfl (lv_at hl 1 rfl) ?_
  refine lv_dup2_11 hx hb dX7_refuses_5 rfl rfl ?_
  refine va_iald hx hb hK hP 1 0 rfl rfl (iR_vp hx1 (by decide +kernel)) dX7_refuses_6 ?_
  refine lv_iconst (v := 1) hx hb dX7_refuses_7 (by decide +kernel) ?_
  refine lv_iadd hx hb dX7_refuses_8 ?_
  refine lv_topi (fun y_8 ey_8 => ?_)
  refine s_iast (g := (upd f48 x1.toNatClampNeg y_8)) (ws' := [(h, .inr (7, oM r i j)), ((r 48), .inl (cI, 6, .inl (upd f48 x1.toNatClampNeg y_8)))]) hx hb hK hP hD hS 1 0 rfl rfl (iR_vp hx1 (by decide +kernel)) rfl rfl dX7_refuses_9 (fun H locs hP hD hS => ?_)
  refine lv_iconst (v := (-1)) hx hb dX7_refuses_10 (by decide +kernel) ?_
  exact k_ri B hP hD hS dX7_refuses_11 ((fun _ => 0), (fun _ => 0), (fun k9 => match k9 with | 0 => (upd f48 x1.toNatClampNeg y_8) | _ => (fun _ => 0)), (fun _ => (fun _ => 0)), (fun _ => 0)) [0, 1] rfl rfl rfl (Nat.le_of_ble_eq_true rfl) (Nat.le_of_ble_eq_true rfl) rfl
set_option maxHeartbeats 8000000 in
set_option maxRecDepth 100000 in
theorem s_X7_undo_v0 (l : Launch) (dC : Nat → ClassId) (dI : Nat → Nat → Nat) (cI cJ cZ cM : ClassId) (h : Nat) (r : Nat → Nat) (i : Nat → Int32) (j : Nat → Int64) (f48 : Nat → Int32) (f49 : Nat → Int32) (f50 : Nat → Int32) (f51 : Nat → Int32) (f52 : Nat → Int32) (f53 : Nat → Int32) (f54 : Nat → Int32) (f55 : Nat → Int32) (f56 : Nat → Int32) (f57 : Nat → Int32) (hI : mR i) (hf49 : aR f49 0 1023) (hf50 : aR f50 0 999) (hf53 : aR f53 0 50) : k_Mi l yX7_undo wsX7_undo ({ frames := 2, cells := 0, slots := 0, locals := 63 }) (dC, dI) vwCl (tyy cI cJ cZ cM) [(h, .inr (7, oM r i j)), ((r 48), .inl (cI, 6, .inl f48)), ((r 49), .inl (cI, 22, .inl f49)), ((r 50), .inl (cI, 22, .inl f50)), ((r 51), .inl (cI, 22, .inl f51)), ((r 52), .inl (cI, 22, .inl f52)), ((r 53), .inl (cI, 22, .inl f53)), ((r 54), .inl (cI, 1100, .inl f54)), ((r 55), .inl (cI, 1100, .inl f55)), ((r 56), .inl (cI, 1100, .inl f56)), ((r 57), .inl (cI, 1100, .inl f57))] [.ref h] 0 0 (fun (u9 : SU) => [(h, .inr (7, oM r (upd i 59 (u9.1 0)) j)), ((r 48), .inl (cI, 6, .inl (u9.2.2.1 0))), ((r 49), .inl (cI, 22, .inl (u9.2.2.1 1))), ((r 50), .inl (cI, 22, .inl (u9.2.2.1 2))), ((r 51), .inl (cI, 22, .inl (u9.2.2.1 3))), ((r 52), .inl (cI, 22, .inl (u9.2.2.1 4))), ((r 53), .inl (cI, 22, .inl (u9.2.2.1 5))), ((r 54), .inl (cI, 1100, .inl (u9.2.2.1 6))), ((r 55), .inl (cI, 1100, .inl (u9.2.2.1 7))), ((r 56), .inl (cI, 1100, .inl (u9.2.2.1 8))), ((r 57), .inl (cI, 1100, .inl (u9.2.2.1 9)))]) (fun (r9 : Int32) (u9 : SU) => (iR r9 0 1) ∧ (iR (u9.1 0) 0 19) ∧ (aR (u9.2.2.1 1) 0 1023) ∧ (aR (u9.2.2.1 2) 0 999) ∧ (aR (u9.2.2.1 5) 0 50)) := by
  refine fun sz => k_enter (cc := cX7_undo) (maxL := 1) (ret := some (.boolean)) (Qc := fun A => va_Qi (fun (r9 : Int32) (u9 : SU) => (iR r9 0 1) ∧ (iR (u9.1 0) 0 19) ∧ (aR (u9.2.2.1 1) 0 1023) ∧ (aR (u9.2.2.1 2) 0 999) ∧ (aR (u9.2.2.1 5) 0 50)) (fun u => k_B (dC, dI) vwCl (tyy cI cJ cZ cM) A ((fun (u9 : SU) => [(h, .inr (7, oM r (upd i 59 (u9.1 0)) j)), ((r 48), .inl (cI, 6, .inl (u9.2.2.1 0))), ((r 49), .inl (cI, 22, .inl (u9.2.2.1 1))), ((r 50), .inl (cI, 22, .inl (u9.2.2.1 2))), ((r 51), .inl (cI, 22, .inl (u9.2.2.1 3))), ((r 52), .inl (cI, 22, .inl (u9.2.2.1 4))), ((r 53), .inl (cI, 22, .inl (u9.2.2.1 5))), ((r 54), .inl (cI, 1100, .inl (u9.2.2.1 6))), ((r 55), .inl (cI, 1100, .inl (u9.2.2.1 7))), ((r 56), .inl (cI, 1100, .inl (u9.2.2.1 8))), ((r 57), .inl (cI, 1100, .inl (u9.2.2.1 9)))]) u)) A) sz (by decide +kernel) rfl (Nat.le_of_ble_eq_true rfl) (fun p e s m args below meth c A ls H locs B hP hD hS hl => ?_)
  obtain ⟨hx, hb, hml, hown, hts, hr, hlk, hnm, hK, hA, hN, hC⟩ := id B
  have hown : s.vm.findClass RX7 = some m.cls := hown
  have hl : lv_has ls 1 [(0, .ref h)] := hl
  have w_0 : (Cond.fieldLink RX7 192 "WishSeaModel" "undos" "I").before args s = true := hts _ (List.mem_of_getElem? (i := 1) rfl)
  have hinX7 : ∀ w ∈ u_ws RX7 TX7 92, w ∈ wsX7_undo := fun _ h => List.mem_cons_of_mem _ (List.mem_append_right _ h)
  refine lv_aload_n hx hb dX7_undo_0 rfl (lv_at hl 0 rfl) ?_
  have f_1_1 : iR (i 59) 0 20 := hI 59
  refine k_get (D := (dC, dI)) (ci := 7) (v := .int (i 59)) (C := RX7) (T := TX7) (N := 92) hx hb hts hinX7 hown hK hP 0 rfl rfl 59 (by decide) w_0 rfl rfl dX7_undo_1 ?_
  refine lv_if_ne (tgt := 21) hx hb dX7_undo_4 (by decide) (fun c_4 => ?_) (fun c_4 => ?_)
  · have c_4 : ¬ (i 59) = 0 := c_4
    have f_21_2 : iR (i 59) 1 20 := iR_neL c_4 f_1_1 (iR_c (n := 0) (by decide +kernel) (by decide +kernel)) (by decide +kernel)
    refine lv_aload_n hx hb dX7_undo_21 rfl (lv_at hl 0 rfl) ?_
    refine lv_dup hx hb dX7_undo_22 rfl ?_
    refine k_get (D := (dC, dI)) (ci := 7) (v := .int (i 59)) (C := RX7) (T := TX7) (N := 92) hx hb hts hinX7 hown hK hP 0 rfl rfl 59 (by decide) w_0 rfl rfl dX7_undo_23 ?_
    refine lv_iconst (v := 1) hx hb dX7_undo_26 (by decide +kernel) ?_
    refine lv_isub hx hb dX7_undo_27 ?_
    refine lv_topi (fun y_27 ey_27 => ?_)
    have f_27_3 : iR y_27 0 19 := iR_sub ey_27 f_21_2 (iR_c (n := 1) (by decide +kernel) (by decide +kernel)) (by decide +kernel)
    refine k_put (D := (dC, dI)) (ci := 7) (v := .int y_27) (C := RX7) (T := TX7) (N := 92) (ws' := [(h, .inr (7, oM r (upd i 59 y_27) j)), ((r 48), .inl (cI, 6, .inl f48)), ((r 49), .inl (cI, 22, .inl f49)), ((r 50), .inl (cI, 22, .inl f50)), ((r 51), .inl (cI, 22, .inl f51)), ((r 52), .inl (cI, 22, .inl f52)), ((r 53), .inl (cI, 22, .inl f53)), ((r 54), .inl (cI, 1100, .inl f54)), ((r 55), .inl (cI, 1100, .inl f55)), ((r 56), .inl (cI, 1100, .inl f56)), ((r 57), .inl (cI, 1100, .inl f57))]) hx hb hts hinX7 tyX7 tyX7_ok nmX7 hown hK hP hD hS 0 rfl rfl 59 (by decide) w_0 rfl rfl rfl rfl (Nat.le_of_ble_eq_true rfl) rfl dX7_undo_28 (fun H locs hP hD hS => ?_)
    refine lv_aload_n hx hb dX7_undo_31 rfl (lv_at hl 0 rfl) ?_
    refine lv_iconst (v := 0) hx hb dX7_undo_32 (by decide +kernel) ?_
    refine lv_aload_n hx hb dX7_undo_33 rfl (lv_at hl 0 rfl) ?_
    refine lv_aload_n hx hb dX7_undo_34 rfl (lv_at hl 0 rfl) ?_
    refine k_get (D := (dC, dI)) (ci := 7) (v := .int y_27) (C := RX7) (T := TX7) (N := 92) hx hb hts hinX7 hown hK hP 0 rfl rfl 59 (by decide) w_0 rfl rfl dX7_undo_35 ?_
    refine k_ci (wc := [(h, .inr (7, oM r (upd i 59 y_27) j))]) (wr := [((r 48), .inl (cI, 6, .inl f48)), ((r 49), .inl (cI, 22, .inl f49)), ((r 50), .inl (cI, 22, .inl f50)), ((r 51), .inl (cI, 22, .inl f51)), ((r 52), .inl (cI, 22, .inl f52)), ((r 53), .inl (cI, 22, .inl f53)), ((r 54), .inl (cI, 1100, .inl f54)), ((r 55), .inl (cI, 1100, .inl f55)), ((r 56), .inl (cI, 1100, .inl f56)), ((r 57), .inl (cI, 1100, .inl f57))]) (fun hPc hDc hFc => va_runV (As := [.int y_27]) (rest := [.int 0, .ref h]) ⟨hx, hb, hml, hown, hts⟩ (s_X7_ring_v3 l dC dI cI cJ cZ cM h r (upd i 59 y_27) j y_27 (iR_w f_27_3 (by decide +kernel)) (mR_upd 59 hI (show iR _ (loI 59) (hiI 59) from (iR_w f_27_3 (by decide +kernel)))) H.size) (cwV 1 hts gX7_undo_X7_ring rfl rfl rfl (by decide +kernel) ⟨(Nat.le_of_ble_eq_true rfl), (Nat.le_of_ble_eq_true rfl)⟩) (k_pV hPc hDc hK hN hC hS hFc hP (q0 := 0) (ci := 7) rfl rfl) rfl rfl hl.1 rfl (lv_room (Nat.le_of_ble_eq_true rfl)) dX7_undo_38 ⟨(Nat.le_of_ble_eq_true rfl), (Nat.le_of_ble_eq_true rfl)⟩) hP hD hS hA [0] [1, 2, 3, 4, 5, 6, 7, 8, 9, 10] rfl rfl rfl rfl (by decide) (fun _ => rfl) 0 0 rfl rfl (fun r_38 u_38 H locs hw hP hD hS => ?_)
    obtain g_38_0 := hw
    have hP : va_P (dC, dI) vwCl [((r 48), .inl (cI, 6, .inl f48)), ((r 49), .inl (cI, 22, .inl f49)), ((r 50), .inl (cI, 22, .inl f50)), ((r 51), .inl (cI, 22, .inl f51)), ((r 52), .inl (cI, 22, .inl f52)), ((r 53), .inl (cI, 22, .inl f53)), ((r 54), .inl (cI, 1100, .inl f54)), ((r 55), .inl (cI, 1100, .inl f55)), ((r 56), .inl (cI, 1100, .inl f56)), ((r 57), .inl (cI, 1100, .inl f57)), (h, .inr (7, oM r (upd i 59 y_27) j))] H := hP
    have hD : va_D A [((r 48), .inl (cI, 6, .inl f48)), ((r 49), .inl (cI, 22, .inl f49)), ((r 50), .inl (cI, 22, .inl f50)), ((r 51), .inl (cI, 22, .inl f51)), ((r 52), .inl (cI, 22, .inl f52)), ((r 53), .inl (cI, 22, .inl f53)), ((r 54), .inl (cI, 1100, .inl f54)), ((r 55), .inl (cI, 1100, .inl f55)), ((r 56), .inl (cI, 1100, .inl f56)), ((r 57), .inl (cI, 1100, .inl f57)), (h, .inr (7, oM r (upd i 59 y_27) j))] := hD
    refine k_cv (wc := [(h, .inr (7, oM r (upd i 59 y_27) j)), ((r 49), .inl (cI, 22, .inl f49)), ((r 50), .inl (cI, 22, .inl f50)), ((r 51), .inl (cI, 22, .inl f51)), ((r 52), .inl (cI, 22, .inl f52)), ((r 53), .inl (cI, 22, .inl f53)), ((r 54), .inl (cI, 1100, .inl f54)), ((r 55), .inl (cI, 1100, .inl f55)), ((r 56), .inl (cI, 1100, .inl f56)), ((r 57), .inl (cI, 1100, .inl f57))]) (wr := [((r 48), .inl (cI, 6, .inl f48))]) (fun hPc hDc hFc => va_runV (As := [.int 0, .int r_38]) (rest := []) ⟨hx, hb, hml, hown, hts⟩ (s_X7_copies_v3 l dC dI cI cJ cZ cM h r (upd i 59 y_27) j 0 r_38 f49 f50 f51 f52 f53 f54 f55 f56 f57 (iR_c (n := 0) (by decide +kernel) (by decide +kernel)) (iR_w g_38_0 (by decide +kernel)) (mR_upd 59 hI (show iR _ (loI 59) (hiI 59) from (iR_w f_27_3 (by decide +kernel)))) hf49 hf50 hf53 H.size) (cwV 2 hts gX7_undo_X7_copies rfl rfl rfl (by decide +kernel) ⟨(Nat.le_of_ble_eq_true rfl), (Nat.le_of_ble_eq_true rfl)⟩) (k_pV hPc hDc hK hN hC hS hFc hP (q0 := 10) (ci := 7) rfl rfl) rfl rfl hl.1 rfl (lv_room (Nat.le_of_ble_eq_true rfl)) dX7_undo_41 ⟨(Nat.le_of_ble_eq_true rfl), (Nat.le_of_ble_eq_true rfl)⟩) hP hD hS hA [10, 1, 2, 3, 4, 5, 6, 7, 8, 9] [0] rfl rfl rfl rfl (by decide) (fun _ => rfl) 0 0 rfl rfl (fun u_41 H locs hw hP hD hS => ?_)
    have hP : va_P (dC, dI) vwCl [((r 48), .inl (cI, 6, .inl f48)), (h, .inr (7, oM r (upd i 59 y_27) j)), ((r 49), .inl (cI, 22, .inl (upd f49 0 (f49 r_38.toNatClampNeg)))), ((r 50), .inl (cI, 22, .inl (upd f50 0 (f50 r_38.toNatClampNeg)))), ((r 51), .inl (cI, 22, .inl (upd f51 0 (f51 r_38.toNatClampNeg)))), ((r 52), .inl (cI, 22, .inl (upd f52 0 (f52 r_38.toNatClampNeg)))), ((r 53), .inl (cI, 22, .inl (upd f53 0 (f53 r_38.toNatClampNeg)))), ((r 54), .inl (cI, 1100, .inl (u_41.2.2.1 0))), ((r 55), .inl (cI, 1100, .inl (u_41.2.2.1 1))), ((r 56), .inl (cI, 1100, .inl (u_41.2.2.1 2))), ((r 57), .inl (cI, 1100, .inl (u_41.2.2.1 3)))] H := hP
    have hD : va_D A [((r 48), .inl (cI, 6, .inl f48)), (h, .inr (7, oM r (upd i 59 y_27) j)), ((r 49), .inl (cI, 22, .inl (upd f49 0 (f49 r_38.toNatClampNeg)))), ((r 50), .inl (cI, 22, .inl (upd f50 0 (f50 r_38.toNatClampNeg)))), ((r 51), .inl (cI, 22, .inl (upd f51 0 (f51 r_38.toNatClampNeg)))), ((r 52), .inl (cI, 22, .inl (upd f52 0 (f52 r_38.toNatClampNeg)))), ((r 53), .inl (cI, 22, .inl (upd f53 0 (f53 r_38.toNatClampNeg)))), ((r 54), .inl (cI, 1100, .inl (u_41.2.2.1 0))), ((r 55), .inl (cI, 1100, .inl (u_41.2.2.1 1))), ((r 56), .inl (cI, 1100, .inl (u_41.2.2.1 2))), ((r 57), .inl (cI, 1100, .inl (u_41.2.2.1 3)))] := hD
    refine lv_iconst (v := 1) hx hb dX7_undo_44 (by decide +kernel) ?_
    exact k_ri B hP hD hS dX7_undo_45 ((fun k9 => match k9 with | 0 => y_27 | _ => 0), (fun _ => 0), (fun k9 => match k9 with | 0 => f48 | 1 => (upd f49 0 (f49 r_38.toNatClampNeg)) | 2 => (upd f50 0 (f50 r_38.toNatClampNeg)) | 3 => (upd f51 0 (f51 r_38.toNatClampNeg)) | 4 => (upd f52 0 (f52 r_38.toNatClampNeg)) | 5 => (upd f53 0 (f53 r_38.toNatClampNeg)) | 6 => (u_41.2.2.1 0) | 7 => (u_41.2.2.1 1) | 8 => (u_41.2.2.1 2) | 9 => (u_41.2.2.1 3) | _ => (fun _ => 0)), (fun _ => (fun _ => 0)), (fun _ => 0)) [1, 0, 2, 3, 4, 5, 6, 7, 8, 9, 10] rfl rfl rfl (Nat.le_of_ble_eq_true rfl) (Nat.le_of_ble_eq_true rfl) ⟨(iR_c (n := 1) (by decide +kernel) (by decide +kernel)), f_27_3, (aR_upd _ hf49 (show iR (f49 r_38.toNatClampNeg) 0 1023 from hf49 _)), (aR_upd _ hf50 (show iR (f50 r_38.toNatClampNeg) 0 999 from hf50 _)), (aR_upd _ hf53 (show iR (f53 r_38.toNatClampNeg) 0 50 from hf53 _))⟩
  · have c_4 : (i 59) = 0 := c_4
    have f_7_2 : iR (i 59) 0 0 := iR_eqL c_4 f_1_1 (iR_c (n := 0) (by decide +kernel) (by decide +kernel)) (by decide +kernel)
    refine lv_aload_n hx hb dX7_undo_7 rfl (lv_at hl 0 rfl) ?_
    refine lv_iconst (v := 4) hx hb dX7_undo_8 (by decide +kernel) ?_
    refine k_ci (wc := [(h, .inr (7, oM r i j)), ((r 48), .inl (cI, 6, .inl f48))]) (wr := [((r 49), .inl (cI, 22, .inl f49)), ((r 50), .inl (cI, 22, .inl f50)), ((r 51), .inl (cI, 22, .inl f51)), ((r 52), .inl (cI, 22, .inl f52)), ((r 53), .inl (cI, 22, .inl f53)), ((r 54), .inl (cI, 1100, .inl f54)), ((r 55), .inl (cI, 1100, .inl f55)), ((r 56), .inl (cI, 1100, .inl f56)), ((r 57), .inl (cI, 1100, .inl f57))]) (fun hPc hDc hFc => va_runV (As := [.int 4]) (rest := []) ⟨hx, hb, hml, hown, hts⟩ (s_X7_refuses_v3 l dC dI cI cJ cZ cM h r i j 4 f48 (iR_c (n := 4) (by decide +kernel) (by decide +kernel)) hI H.size) (cwV 1 hts gX7_undo_X7_refuses rfl rfl rfl (by decide +kernel) ⟨(Nat.le_of_ble_eq_true rfl), (Nat.le_of_ble_eq_true rfl)⟩) (k_pV hPc hDc hK hN hC hS hFc hP (q0 := 0) (ci := 7) rfl rfl) rfl rfl hl.1 rfl (lv_room (Nat.le_of_ble_eq_true rfl)) dX7_undo_9 ⟨(Nat.le_of_ble_eq_true rfl), (Nat.le_of_ble_eq_true rfl)⟩) hP hD hS hA [0, 1] [2, 3, 4, 5, 6, 7, 8, 9, 10] rfl rfl rfl rfl (by decide) (fun _ => rfl) 0 0 rfl rfl (fun r_9 u_9 H locs hw hP hD hS => ?_)
    obtain g_9_0 := hw
    obtain rfl : r_9 = (-1) := g_9_0
    have hP : va_P (dC, dI) vwCl [((r 49), .inl (cI, 22, .inl f49)), ((r 50), .inl (cI, 22, .inl f50)), ((r 51), .inl (cI, 22, .inl f51)), ((r 52), .inl (cI, 22, .inl f52)), ((r 53), .inl (cI, 22, .inl f53)), ((r 54), .inl (cI, 1100, .inl f54)), ((r 55), .inl (cI, 1100, .inl f55)), ((r 56), .inl (cI, 1100, .inl f56)), ((r 57), .inl (cI, 1100, .inl f57)), (h, .inr (7, oM r i j)), ((r 48), .inl (cI, 6, .inl (u_9.2.2.1 0)))] H := hP
    have hD : va_D A [((r 49), .inl (cI, 22, .inl f49)), ((r 50), .inl (cI, 22, .inl f50)), ((r 51), .inl (cI, 22, .inl f51)), ((r 52), .inl (cI, 22, .inl f52)), ((r 53), .inl (cI, 22, .inl f53)), ((r 54), .inl (cI, 1100, .inl f54)), ((r 55), .inl (cI, 1100, .inl f55)), ((r 56), .inl (cI, 1100, .inl f56)), ((r 57), .inl (cI, 1100, .inl f57)), (h, .inr (7, oM r i j)), ((r 48), .inl (cI, 6, .inl (u_9.2.2.1 0)))] := hD
    refine lv_if_lt (tgt := 19) hx hb dX7_undo_12 (by decide) (fun _ => ?_) (fun q9 => absurd q9 (by decide +kernel))
    refine lv_iconst (v := 0) hx hb dX7_undo_19 (by decide +kernel) ?_
    exact k_ri B hP hD hS dX7_undo_20 ((fun k9 => match k9 with | 0 => (i 59) | _ => 0), (fun _ => 0), (fun k9 => match k9 with | 0 => (u_9.2.2.1 0) | 1 => f49 | 2 => f50 | 3 => f51 | 4 => f52 | 5 => f53 | 6 => f54 | 7 => f55 | 8 => f56 | 9 => f57 | _ => (fun _ => 0)), (fun _ => (fun _ => 0)), (fun _ => 0)) [9, 10, 0, 1, 2, 3, 4, 5, 6, 7, 8] rfl rfl rfl (Nat.le_of_ble_eq_true rfl) (Nat.le_of_ble_eq_true rfl) ⟨(iR_c (n := 0) (by decide +kernel) (by decide +kernel)), (iR_w f_7_2 (by decide +kernel)), hf49, hf50, hf53⟩
set_option maxHeartbeats 8000000 in
set_option maxRecDepth 100000 in
theorem s_X7_isWish_v1 (l : Launch) (dC : Nat → ClassId) (dI : Nat → Nat → Nat) (cI cJ cZ cM : ClassId) (h : Nat) (r : Nat → Nat) (i : Nat → Int32) (j : Nat → Int64) (x1 : Int32) (f18 : Nat → Int32) (hI : mR i) (hf18 : aR f18 0 12) : k_Mi l yX7_isWish wsX7_isWish ({ frames := 1, cells := 0, slots := 0, locals := 40 }) (dC, dI) vwCl (tyy cI cJ cZ cM) [(h, .inr (7, oM r i j)), ((r 18), .inl (cI, 2, .inl f18))] [.ref h, .int x1] 0 0 (fun (u9 : Unit) => [(h, .inr (7, oM r i j)), ((r 18), .inl (cI, 2, .inl f18))]) (fun (r9 : Int32) (u9 : Unit) => (iR r9 0 1) ∧ ((r9 = 0) ∨ ((0 ≤ x1) ∧ (x1 < (f18 (i 13).toNatClampNeg))))) := by
  refine fun sz => k_enter (cc := cX7_isWish) (maxL := 2) (ret := some (.boolean)) (Qc := fun A => va_Qi (fun (r9 : Int32) (u9 : Unit) => (iR r9 0 1) ∧ ((r9 = 0) ∨ ((0 ≤ x1) ∧ (x1 < (f18 (i 13).toNatClampNeg))))) (fun u => k_B (dC, dI) vwCl (tyy cI cJ cZ cM) A ((fun (u9 : Unit) => [(h, .inr (7, oM r i j)), ((r 18), .inl (cI, 2, .inl f18))]) u)) A) sz (by decide +kernel) rfl (Nat.le_of_ble_eq_true rfl) (fun p e s m args below meth c A ls H locs B hP hD hS hl => ?_)
  obtain ⟨hx, hb, hml, hown, hts, hr, hlk, hnm, hK, hA, hN, hC⟩ := id B
  have hown : s.vm.findClass RX7 = some m.cls := hown
  have hl : lv_has ls 2 [(0, .ref h), (1, .int x1)] := hl
  have w_0 : (Cond.fieldLink RX7 66 "WishSeaModel" "wishes" "[I").before args s = true := hts _ (List.mem_of_getElem? (i := 1) rfl)
  have w_1 : (Cond.fieldLink RX7 51 "WishSeaModel" "bank" "I").before args s = true := hts _ (List.mem_of_getElem? (i := 2) rfl)
  have hinX7 : ∀ w ∈ u_ws RX7 TX7 92, w ∈ wsX7_isWish := fun _ h => List.mem_cons_of_mem _ (List.mem_append_right _ h)
  refine lv_iload_n hx hb dX7_isWish_0 rfl (lv_at hl 1 rfl) ?_
  have J_21 : ∀   (H : Heap) (locs : List Loc) (ls : Array Slot), va_P (dC, dI) vwCl [(h, .inr (7, oM r i j)), ((r 18), .inl (cI, 2, .inl f18))] H → va_D A [(h, .inr (7, oM r i j)), ((r 18), .inl (cI, 2, .inl f18))] → va_S A s.heap H locs → lv_has ls 2 [] → W p l e ({ frames := 1, cells := 0, slots := 0, locals := 40 }) s m args below meth c H locs 0 0 (MQ below (va_Qi (fun (r9 : Int32) (u9 : Unit) => (iR r9 0 1) ∧ ((r9 = 0) ∨ ((0 ≤ x1) ∧ (x1 < (f18 (i 13).toNatClampNeg))))) (fun u => k_B (dC, dI) vwCl (tyy cI cJ cZ cM) A ((fun (u9 : Unit) => [(h, .inr (7, oM r i j)), ((r 18), .inl (cI, 2, .inl f18))]) u)) A) args s 0 0 A) (F0 m 21 ls []) := by
    intro   H locs ls hP hD hS hl
    refine lv_iconst (v := 0) hx hb dX7_isWish_21 (by decide +kernel) ?_
    exact k_ri B hP hD hS dX7_isWish_22 () [0, 1] rfl rfl rfl (Nat.le_of_ble_eq_true rfl) (Nat.le_of_ble_eq_true rfl) ⟨(iR_c (n := 0) (by decide +kernel) (by decide +kernel)), (Or.inl rfl)⟩
  refine lv_if_lt (tgt := 21) hx hb dX7_isWish_1 (by decide) (fun c_1 => ?_) (fun c_1 => ?_)
  · have c_1 : x1 < 0 := c_1
    have f_21_1 : iR x1 (-2147483648) (-1) := iR_ltL c_1 (iR_top _) (iR_c (n := 0) (by decide +kernel) (by decide +kernel)) (by decide +kernel)
    exact J_21   H locs ls hP hD hS (lv_sub hl [] rfl)
  · have c_1 : 0 ≤ x1 := i_nlt c_1
    have f_4_1 : iR x1 0 2147483647 := iR_leR c_1 (iR_c (n := 0) (by decide +kernel) (by decide +kernel)) (iR_top _) (by decide +kernel)
    refine lv_iload_n hx hb dX7_isWish_4 rfl (lv_at hl 1 rfl) ?_
    refine lv_aload_n hx hb dX7_isWish_5 rfl (lv_at hl 0 rfl) ?_
    refine k_get (D := (dC, dI)) (ci := 7) (v := .ref (r 18)) (C := RX7) (T := TX7) (N := 92) hx hb hts hinX7 hown hK hP 0 rfl rfl 18 (by decide) w_0 rfl rfl dX7_isWish_6 ?_
    refine lv_aload_n hx hb dX7_isWish_9 rfl (lv_at hl 0 rfl) ?_
    have f_10_2 : iR (i 13) 0 1 := hI 13
    refine k_get (D := (dC, dI)) (ci := 7) (v := .int (i 13)) (C := RX7) (T := TX7) (N := 92) hx hb hts hinX7 hown hK hP 0 rfl rfl 13 (by decide) w_1 rfl rfl dX7_isWish_10 ?_
    refine va_iald hx hb hK hP 1 0 rfl rfl (iR_vp f_10_2 (by decide +kernel)) dX7_isWish_13 ?_
    have f_13_3 : iR (f18 (i 13).toNatClampNeg) 0 12 := hf18 _
    refine lv_icmp_ge (tgt := 21) hx hb dX7_isWish_14 (by decide) (fun c_14 => ?_) (fun c_14 => ?_)
    · have c_14 : (f18 (i 13).toNatClampNeg) ≤ x1 := c_14
      exact J_21   H locs ls hP hD hS (lv_sub hl [] rfl)
    · have c_14 : x1 < (f18 (i 13).toNatClampNeg) := i_nle c_14
      have f_17_4 : iR x1 0 11 := iR_ltL c_14 f_4_1 f_13_3 (by decide +kernel)
      have f_17_5 : iR (f18 (i 13).toNatClampNeg) 1 12 := iR_ltR c_14 f_4_1 f_13_3 (by decide +kernel)
      refine lv_iconst (v := 1) hx hb dX7_isWish_17 (by decide +kernel) ?_
      refine lv_goto (tgt := 22) hx hb dX7_isWish_18 (by decide) ?_
      exact k_ri B hP hD hS dX7_isWish_22 () [0, 1] rfl rfl rfl (Nat.le_of_ble_eq_true rfl) (Nat.le_of_ble_eq_true rfl) ⟨(iR_c (n := 1) (by decide +kernel) (by decide +kernel)), (Or.inr ⟨c_1, c_14⟩)⟩
set_option maxHeartbeats 8000000 in
set_option maxRecDepth 100000 in
theorem s_X7_areWishes_v0 (l : Launch) (dC : Nat → ClassId) (dI : Nat → Nat → Nat) (cI cJ cZ cM : ClassId) (h : Nat) (r : Nat → Nat) (i : Nat → Int32) (j : Nat → Int64) (x1 : Int32) (x2 : Int32) (f0 : Nat → Int32) (f18 : Nat → Int32) (hx1 : iR x1 0 1600) (hI : mR i) (hf0 : aR f0 0 255) (hf18 : aR f18 0 12) : k_Mi l yX7_areWishes wsX7_areWishes ({ frames := 2, cells := 0, slots := 0, locals := 61 }) (dC, dI) vwCl (tyy cI cJ cZ cM) [(h, .inr (7, oM r i j)), ((r 0), .inl (cI, 1800, .inl f0)), ((r 18), .inl (cI, 2, .inl f18))] [.ref h, .int x1, .int x2] 0 0 (fun (u9 : Unit) => [(h, .inr (7, oM r i j)), ((r 0), .inl (cI, 1800, .inl f0)), ((r 18), .inl (cI, 2, .inl f18))]) (fun (r9 : Int32) (u9 : Unit) => (iR r9 0 1)) := by
  refine fun sz => k_enter (cc := cX7_areWishes) (maxL := 4) (ret := some (.boolean)) (Qc := fun A => va_Qi (fun (r9 : Int32) (u9 : Unit) => (iR r9 0 1)) (fun u => k_B (dC, dI) vwCl (tyy cI cJ cZ cM) A ((fun (u9 : Unit) => [(h, .inr (7, oM r i j)), ((r 0), .inl (cI, 1800, .inl f0)), ((r 18), .inl (cI, 2, .inl f18))]) u)) A) sz (by decide +kernel) rfl (Nat.le_of_ble_eq_true rfl) (fun p e s m args below meth c A ls H locs B hP hD hS hl => ?_)
  obtain ⟨hx, hb, hml, hown, hts, hr, hlk, hnm, hK, hA, hN, hC⟩ := id B
  have hown : s.vm.findClass RX7 = some m.cls := hown
  have hl : lv_has ls 4 [(0, .ref h), (1, .int x1), (2, .int x2)] := hl
  have w_0 : (Cond.fieldLink RX7 7 "WishSeaModel" "tape" "[I").before args s = true := hts _ (List.mem_of_getElem? (i := 1) rfl)
  have hinX7 : ∀ w ∈ u_ws RX7 TX7 92, w ∈ wsX7_areWishes := fun _ h => List.mem_cons_of_mem _ (List.mem_append_right _ h)
  refine lv_iconst (v := 0) hx hb dX7_areWishes_0 (by decide +kernel) ?_
  have J_2 : ∀ (n_2 : Nat) (j2_L3 : Int32) (hj2_L3 : iR j2_L3 0 1600) (hm_2 : (1600 - j2_L3.toInt).toNat < n_2) (H : Heap) (locs : List Loc) (ls : Array Slot), va_P (dC, dI) vwCl [(h, .inr (7, oM r i j)), ((r 0), .inl (cI, 1800, .inl f0)), ((r 18), .inl (cI, 2, .inl f18))] H → va_D A [(h, .inr (7, oM r i j)), ((r 0), .inl (cI, 1800, .inl f0)), ((r 18), .inl (cI, 2, .inl f18))] → va_S A s.heap H locs → lv_has ls 4 [(0, .ref h), (1, .int x1), (2, .int x2), (3, .int j2_L3)] → W p l e ({ frames := 2, cells := 0, slots := 0, locals := 61 }) s m args below meth c H locs 0 0 (MQ below (va_Qi (fun (r9 : Int32) (u9 : Unit) => (iR r9 0 1)) (fun u => k_B (dC, dI) vwCl (tyy cI cJ cZ cM) A ((fun (u9 : Unit) => [(h, .inr (7, oM r i j)), ((r 0), .inl (cI, 1800, .inl f0)), ((r 18), .inl (cI, 2, .inl f18))]) u)) A) args s 0 0 A) (F0 m 2 ls []) := by
    intro n_2
    induction n_2 with
    | zero => intro j2_L3 hj2_L3 hm_2; exact absurd hm_2 (Nat.not_lt_zero _)
    | succ n_2 ih_2 =>
      intro j2_L3 hj2_L3 hm_2 H locs ls hP hD hS hl
      refine lv_iload_n hx hb dX7_areWishes_2 rfl (lv_at hl 3 rfl) ?_
      refine lv_iload_n hx hb dX7_areWishes_3 rfl (lv_at hl 1 rfl) ?_
      refine lv_icmp_ge (tgt := 44) hx hb dX7_areWishes_4 (by decide) (fun c_4 => ?_) (fun c_4 => ?_)
      · have c_4 : x1 ≤ j2_L3 := c_4
        refine lv_iconst (v := 1) hx hb dX7_areWishes_44 (by decide +kernel) ?_
        exact k_ri B hP hD hS dX7_areWishes_45 () [0, 1, 2] rfl rfl rfl (Nat.le_of_ble_eq_true rfl) (Nat.le_of_ble_eq_true rfl) (iR_c (n := 1) (by decide +kernel) (by decide +kernel))
      · have c_4 : j2_L3 < x1 := i_nle c_4
        have f_7_1 : iR j2_L3 0 1599 := iR_ltL c_4 hj2_L3 hx1 (by decide +kernel)
        have f_7_2 : iR x1 1 1600 := iR_ltR c_4 hj2_L3 hx1 (by decide +kernel)
        refine lv_aload_n hx hb dX7_areWishes_7 rfl (lv_at hl 0 rfl) ?_
        refine lv_aload_n hx hb dX7_areWishes_8 rfl (lv_at hl 0 rfl) ?_
        refine k_get (D := (dC, dI)) (ci := 7) (v := .ref (r 0)) (C := RX7) (T := TX7) (N := 92) hx hb hts hinX7 hown hK hP 0 rfl rfl 0 (by decide) w_0 rfl rfl dX7_areWishes_9 ?_
        refine lv_iload_n hx hb dX7_areWishes_12 rfl (lv_at hl 3 rfl) ?_
        refine va_iald hx hb hK hP 1 0 rfl rfl (iR_vp f_7_1 (by decide +kernel)) dX7_areWishes_13 ?_
        have f_13_3 : iR (f0 j2_L3.toNatClampNeg) 0 255 := hf0 _
        refine k_ci (wc := [(h, .inr (7, oM r i j)), ((r 18), .inl (cI, 2, .inl f18))]) (wr := [((r 0), .inl (cI, 1800, .inl f0))]) (fun hPc hDc hFc => va_runV (As := [.int (f0 j2_L3.toNatClampNeg)]) (rest := []) ⟨hx, hb, hml, hown, hts⟩ (s_X7_isWish_v1 l dC dI cI cJ cZ cM h r i j (f0 j2_L3.toNatClampNeg) f18 hI hf18 H.size) (cwV 1 hts gX7_areWishes_X7_isWish rfl rfl rfl (by decide +kernel) ⟨(Nat.le_of_ble_eq_true rfl), (Nat.le_of_ble_eq_true rfl)⟩) (k_pV hPc hDc hK hN hC hS hFc hP (q0 := 0) (ci := 7) rfl rfl) rfl rfl hl.1 rfl (lv_room (Nat.le_of_ble_eq_true rfl)) dX7_areWishes_14 ⟨(Nat.le_of_ble_eq_true rfl), (Nat.le_of_ble_eq_true rfl)⟩) hP hD hS hA [0, 2] [1] rfl rfl rfl rfl (by decide) (fun _ => rfl) 0 0 rfl rfl (fun r_14 u_14 H locs hw hP hD hS => ?_)
        obtain ⟨g_14_0, g_14_1⟩ := hw
        have hP : va_P (dC, dI) vwCl [((r 0), .inl (cI, 1800, .inl f0)), (h, .inr (7, oM r i j)), ((r 18), .inl (cI, 2, .inl f18))] H := hP
        have hD : va_D A [((r 0), .inl (cI, 1800, .inl f0)), (h, .inr (7, oM r i j)), ((r 18), .inl (cI, 2, .inl f18))] := hD
        have J_38 : ∀   (H : Heap) (locs : List Loc) (ls : Array Slot), va_P (dC, dI) vwCl [(h, .inr (7, oM r i j)), ((r 0), .inl (cI, 1800, .inl f0)), ((r 18), .inl (cI, 2, .inl f18))] H → va_D A [(h, .inr (7, oM r i j)), ((r 0), .inl (cI, 1800, .inl f0)), ((r 18), .inl (cI, 2, .inl f18))] → va_S A s.heap H locs → lv_has ls 4 [(0, .ref h), (1, .int x1), (2, .int x2), (3, .int j2_L3)] → W p l e ({ frames := 2, cells := 0, slots := 0, locals := 61 }) s m args below meth c H locs 0 0 (MQ below (va_Qi (fun (r9 : Int32) (u9 : Unit) => (iR r9 0 1)) (fun u => k_B (dC, dI) vwCl (tyy cI cJ cZ cM) A ((fun (u9 : Unit) => [(h, .inr (7, oM r i j)), ((r 0), .inl (cI, 1800, .inl f0)), ((r 18), .inl (cI, 2, .inl f18))]) u)) A) args s 0 0 A) (F0 m 38 ls []) := by
          intro   H locs ls hP hD hS hl
          obtain ⟨y_38, ey_38⟩ : ∃ y : Int32, y = j2_L3 + 1 := ⟨_, rfl⟩
          refine lv_iinc (v := y_38) (lv' := [(3, .int y_38), (0, .ref h), (1, .int x1), (2, .int x2)]) hx hb dX7_areWishes_38 hl (k := 3) rfl ey_38.symm (by decide) rfl (fun ls hl => ?_)
          have f_38_1 : iR y_38 1 1600 := iR_add ey_38 f_7_1 (iR_c (n := 1) (by decide +kernel) (by decide +kernel)) (by decide +kernel)
          refine lv_goto (tgt := 2) hx hb dX7_areWishes_41 (by decide) ?_
          exact ih_2 y_38 (iR_w f_38_1 (by decide +kernel)) (m_up (B := 1600) hm_2 ey_38 f_7_1 (by decide +kernel)) H locs ls hP hD hS (lv_sub hl [1, 2, 3, 0] rfl)
        refine lv_if_ne (tgt := 38) hx hb dX7_areWishes_17 (by decide) (fun c_17 => ?_) (fun c_17 => ?_)
        · have c_17 : ¬ r_14 = 0 := c_17
          have f_38_4 : iR r_14 1 1 := iR_neL c_17 g_14_0 (iR_c (n := 0) (by decide +kernel) (by decide +kernel)) (by decide +kernel)
          obtain ⟨d_17_1_0, d_17_1_1⟩ := g_14_1.resolve_left c_17
          have f_38_5 : iR (f0 j2_L3.toNatClampNeg) 0 11 := iR_ltL d_17_1_1 f_13_3 (show iR (f18 (i 13).toNatClampNeg) 0 12 from hf18 _) (by decide +kernel)
          have f_38_6 : iR (f18 (i 13).toNatClampNeg) 1 12 := iR_ltR d_17_1_1 f_13_3 (show iR (f18 (i 13).toNatClampNeg) 0 12 from hf18 _) (by decide +kernel)
          exact J_38   H locs ls (hP.sub [1, 0, 2] rfl) (hD.sub [1, 0, 2] (by decide +kernel) rfl) hS (lv_sub hl [0, 1, 2, 3] rfl)
        · have c_17 : r_14 = 0 := c_17
          have f_20_4 : iR r_14 0 0 := iR_eqL c_17 g_14_0 (iR_c (n := 0) (by decide +kernel) (by decide +kernel)) (by decide +kernel)
          refine lv_iload_n hx hb dX7_areWishes_20 rfl (lv_at hl 2 rfl) ?_
          have J_36 : ∀   (H : Heap) (locs : List Loc) (ls : Array Slot), va_P (dC, dI) vwCl [(h, .inr (7, oM r i j)), ((r 0), .inl (cI, 1800, .inl f0)), ((r 18), .inl (cI, 2, .inl f18))] H → va_D A [(h, .inr (7, oM r i j)), ((r 0), .inl (cI, 1800, .inl f0)), ((r 18), .inl (cI, 2, .inl f18))] → va_S A s.heap H locs → lv_has ls 4 [] → W p l e ({ frames := 2, cells := 0, slots := 0, locals := 61 }) s m args below meth c H locs 0 0 (MQ below (va_Qi (fun (r9 : Int32) (u9 : Unit) => (iR r9 0 1)) (fun u => k_B (dC, dI) vwCl (tyy cI cJ cZ cM) A ((fun (u9 : Unit) => [(h, .inr (7, oM r i j)), ((r 0), .inl (cI, 1800, .inl f0)), ((r 18), .inl (cI, 2, .inl f18))]) u)) A) args s 0 0 A) (F0 m 36 ls []) := by
            intro   H locs ls hP hD hS hl
            refine lv_iconst (v := 0) hx hb dX7_areWishes_36 (by decide +kernel) ?_
            exact k_ri B hP hD hS dX7_areWishes_37 () [0, 1, 2] rfl rfl rfl (Nat.le_of_ble_eq_true rfl) (Nat.le_of_ble_eq_true rfl) (iR_c (n := 0) (by decide +kernel) (by decide +kernel))
          refine lv_if_eq (tgt := 36) hx hb dX7_areWishes_21 (by decide) (fun c_21 => ?_) (fun c_21 => ?_)
          · have c_21 : x2 = 0 := c_21
            have f_36_5 : iR x2 0 0 := iR_eqL c_21 (iR_top _) (iR_c (n := 0) (by decide +kernel) (by decide +kernel)) (by decide +kernel)
            exact J_36   H locs ls (hP.sub [1, 0, 2] rfl) (hD.sub [1, 0, 2] (by decide +kernel) rfl) hS (lv_sub hl [] rfl)
          · have c_21 : ¬ x2 = 0 := c_21
            refine lv_aload_n hx hb dX7_areWishes_24 rfl (lv_at hl 0 rfl) ?_
            refine k_get (D := (dC, dI)) (ci := 7) (v := .ref (r 0)) (C := RX7) (T := TX7) (N := 92) hx hb hts hinX7 hown hK hP 1 rfl rfl 0 (by decide) w_0 rfl rfl dX7_areWishes_25 ?_
            refine lv_iload_n hx hb dX7_areWishes_28 rfl (lv_at hl 3 rfl) ?_
            refine va_iald hx hb hK hP 0 0 rfl rfl (iR_vp f_7_1 (by decide +kernel)) dX7_areWishes_29 ?_
            refine lv_sipush (v := 255) hx hb dX7_areWishes_30 (by decide +kernel) ?_
            refine lv_icmp_eq (tgt := 38) hx hb dX7_areWishes_33 (by decide) (fun c_33 => ?_) (fun c_33 => ?_)
            · have c_33 : (f0 j2_L3.toNatClampNeg) = 255 := c_33
              have f_38_5 : iR (f0 j2_L3.toNatClampNeg) 255 255 := iR_eqL c_33 f_13_3 (iR_c (n := 255) (by decide +kernel) (by decide +kernel)) (by decide +kernel)
              exact J_38   H locs ls (hP.sub [1, 0, 2] rfl) (hD.sub [1, 0, 2] (by decide +kernel) rfl) hS (lv_sub hl [0, 1, 2, 3] rfl)
            · have c_33 : ¬ (f0 j2_L3.toNatClampNeg) = 255 := c_33
              have f_36_5 : iR (f0 j2_L3.toNatClampNeg) 0 254 := iR_neL c_33 f_13_3 (iR_c (n := 255) (by decide +kernel) (by decide +kernel)) (by decide +kernel)
              exact J_36   H locs ls (hP.sub [1, 0, 2] rfl) (hD.sub [1, 0, 2] (by decide +kernel) rfl) hS (lv_sub hl [] rfl)
  refine lv_istore_n (lv' := [(3, .int 0), (0, .ref h), (1, .int x1), (2, .int x2)]) hx hb dX7_areWishes_1 rfl hl (by decide) rfl (fun ls hl => ?_)
  exact J_2 _ 0 (iR_c (n := 0) (by decide +kernel) (by decide +kernel)) (Nat.lt_succ_self _) H locs ls hP hD hS (lv_sub hl [1, 2, 3, 0] rfl)
set_option maxHeartbeats 8000000 in
set_option maxRecDepth 100000 in
theorem s_X7_canBear_v0 (l : Launch) (dC : Nat → ClassId) (dI : Nat → Nat → Nat) (cI cJ cZ cM : ClassId) (h : Nat) (r : Nat → Nat) (i : Nat → Int32) (j : Nat → Int64) (x1 : Int32) (f78 : Nat → Int32) (f79 : Nat → Int32) (hI : mR i) : k_Mi l yX7_canBear wsX7_canBear ({ frames := 1, cells := 0, slots := 0, locals := 40 }) (dC, dI) vwCl (tyy cI cJ cZ cM) [(h, .inr (7, oM r i j)), ((r 78), .inl (cI, 20, .inl f78)), ((r 79), .inl (cI, 20, .inl f79))] [.ref h, .int x1] 0 0 (fun (u9 : Unit) => [(h, .inr (7, oM r i j)), ((r 78), .inl (cI, 20, .inl f78)), ((r 79), .inl (cI, 20, .inl f79))]) (fun (r9 : Int32) (u9 : Unit) => (iR r9 0 1)) := by
  refine fun sz => k_enter (cc := cX7_canBear) (maxL := 3) (ret := some (.boolean)) (Qc := fun A => va_Qi (fun (r9 : Int32) (u9 : Unit) => (iR r9 0 1)) (fun u => k_B (dC, dI) vwCl (tyy cI cJ cZ cM) A ((fun (u9 : Unit) => [(h, .inr (7, oM r i j)), ((r 78), .inl (cI, 20, .inl f78)), ((r 79), .inl (cI, 20, .inl f79))]) u)) A) sz (by decide +kernel) rfl (Nat.le_of_ble_eq_true rfl) (fun p e s m args below meth c A ls H locs B hP hD hS hl => ?_)
  obtain ⟨hx, hb, hml, hown, hts, hr, hlk, hnm, hK, hA, hN, hC⟩ := id B
  have hown : s.vm.findClass RX7 = some m.cls := hown
  have hl : lv_has ls 3 [(0, .ref h), (1, .int x1)] := hl
  have w_0 : (Cond.fieldLink RX7 246 "WishSeaModel" "fallMany" "I").before args s = true := hts _ (List.mem_of_getElem? (i := 1) rfl)
  have w_1 : (Cond.fieldLink RX7 249 "WishSeaModel" "fallDark" "[I").before args s = true := hts _ (List.mem_of_getElem? (i := 2) rfl)
  have w_2 : (Cond.fieldLink RX7 252 "WishSeaModel" "fallIs" "[I").before args s = true := hts _ (List.mem_of_getElem? (i := 3) rfl)
  have hinX7 : ∀ w ∈ u_ws RX7 TX7 92, w ∈ wsX7_canBear := fun _ h => List.mem_cons_of_mem _ (List.mem_append_right _ h)
  refine lv_iconst (v := 0) hx hb dX7_canBear_0 (by decide +kernel) ?_
  have J_2 : ∀ (n_2 : Nat) (j2_L2 : Int32) (hj2_L2 : iR j2_L2 0 20) (hm_2 : (20 - j2_L2.toInt).toNat < n_2) (H : Heap) (locs : List Loc) (ls : Array Slot), va_P (dC, dI) vwCl [(h, .inr (7, oM r i j)), ((r 78), .inl (cI, 20, .inl f78)), ((r 79), .inl (cI, 20, .inl f79))] H → va_D A [(h, .inr (7, oM r i j)), ((r 78), .inl (cI, 20, .inl f78)), ((r 79), .inl (cI, 20, .inl f79))] → va_S A s.heap H locs → lv_has ls 3 [(0, .ref h), (1, .int x1), (2, .int j2_L2)] → W p l e ({ frames := 1, cells := 0, slots := 0, locals := 40 }) s m args below meth c H locs 0 0 (MQ below (va_Qi (fun (r9 : Int32) (u9 : Unit) => (iR r9 0 1)) (fun u => k_B (dC, dI) vwCl (tyy cI cJ cZ cM) A ((fun (u9 : Unit) => [(h, .inr (7, oM r i j)), ((r 78), .inl (cI, 20, .inl f78)), ((r 79), .inl (cI, 20, .inl f79))]) u)) A) args s 0 0 A) (F0 m 2 ls []) := by
    intro n_2
    induction n_2 with
    | zero => intro j2_L2 hj2_L2 hm_2; exact absurd hm_2 (Nat.not_lt_zero _)
    | succ n_2 ih_2 =>
      intro j2_L2 hj2_L2 hm_2 H locs ls hP hD hS hl
      refine lv_iload_n hx hb dX7_canBear_2 rfl (lv_at hl 2 rfl) ?_
      refine lv_aload_n hx hb dX7_canBear_3 rfl (lv_at hl 0 rfl) ?_
      have f_4_1 : iR (i 77) 0 20 := hI 77
      refine k_get (D := (dC, dI)) (ci := 7) (v := .int (i 77)) (C := RX7) (T := TX7) (N := 92) hx hb hts hinX7 hown hK hP 0 rfl rfl 77 (by decide) w_0 rfl rfl dX7_canBear_4 ?_
      refine lv_icmp_ge (tgt := 42) hx hb dX7_canBear_7 (by decide) (fun c_7 => ?_) (fun c_7 => ?_)
      · have c_7 : (i 77) ≤ j2_L2 := c_7
        refine lv_iconst (v := 1) hx hb dX7_canBear_42 (by decide +kernel) ?_
        exact k_ri B hP hD hS dX7_canBear_43 () [0, 1, 2] rfl rfl rfl (Nat.le_of_ble_eq_true rfl) (Nat.le_of_ble_eq_true rfl) (iR_c (n := 1) (by decide +kernel) (by decide +kernel))
      · have c_7 : j2_L2 < (i 77) := i_nle c_7
        have f_10_2 : iR j2_L2 0 19 := iR_ltL c_7 hj2_L2 f_4_1 (by decide +kernel)
        have f_10_3 : iR (i 77) 1 20 := iR_ltR c_7 hj2_L2 f_4_1 (by decide +kernel)
        refine lv_aload_n hx hb dX7_canBear_10 rfl (lv_at hl 0 rfl) ?_
        refine k_get (D := (dC, dI)) (ci := 7) (v := .ref (r 78)) (C := RX7) (T := TX7) (N := 92) hx hb hts hinX7 hown hK hP 0 rfl rfl 78 (by decide) w_1 rfl rfl dX7_canBear_11 ?_
        refine lv_iload_n hx hb dX7_canBear_14 rfl (lv_at hl 2 rfl) ?_
        refine va_iald hx hb hK hP 1 0 rfl rfl (iR_vp f_10_2 (by decide +kernel)) dX7_canBear_15 ?_
        refine lv_iload_n hx hb dX7_canBear_16 rfl (lv_at hl 1 rfl) ?_
        have J_25 : ∀ (j25_S0 : Int32) (hj25_S0 : iR j25_S0 0 1) (H : Heap) (locs : List Loc) (ls : Array Slot), va_P (dC, dI) vwCl [(h, .inr (7, oM r i j)), ((r 78), .inl (cI, 20, .inl f78)), ((r 79), .inl (cI, 20, .inl f79))] H → va_D A [(h, .inr (7, oM r i j)), ((r 78), .inl (cI, 20, .inl f78)), ((r 79), .inl (cI, 20, .inl f79))] → va_S A s.heap H locs → lv_has ls 3 [(0, .ref h), (1, .int x1), (2, .int j2_L2)] → W p l e ({ frames := 1, cells := 0, slots := 0, locals := 40 }) s m args below meth c H locs 0 0 (MQ below (va_Qi (fun (r9 : Int32) (u9 : Unit) => (iR r9 0 1)) (fun u => k_B (dC, dI) vwCl (tyy cI cJ cZ cM) A ((fun (u9 : Unit) => [(h, .inr (7, oM r i j)), ((r 78), .inl (cI, 20, .inl f78)), ((r 79), .inl (cI, 20, .inl f79))]) u)) A) args s 0 0 A) (F0 m 25 ls [.int j25_S0]) := by
          intro j25_S0 hj25_S0 H locs ls hP hD hS hl
          refine lv_aload_n hx hb dX7_canBear_25 rfl (lv_at hl 0 rfl) ?_
          refine k_get (D := (dC, dI)) (ci := 7) (v := .ref (r 79)) (C := RX7) (T := TX7) (N := 92) hx hb hts hinX7 hown hK hP 0 rfl rfl 79 (by decide) w_2 rfl rfl dX7_canBear_26 ?_
          refine lv_iload_n hx hb dX7_canBear_29 rfl (lv_at hl 2 rfl) ?_
          refine va_iald hx hb hK hP 2 0 rfl rfl (iR_vp f_10_2 (by decide +kernel)) dX7_canBear_30 ?_
          refine lv_icmp_eq (tgt := 36) hx hb dX7_canBear_31 (by decide) (fun c_31 => ?_) (fun c_31 => ?_)
          · have c_31 : j25_S0 = (f79 j2_L2.toNatClampNeg) := c_31
            have f_36_1 : iR (f79 j2_L2.toNatClampNeg) 0 1 := iR_eqR c_31 hj25_S0 (iR_top _) (by decide +kernel)
            obtain ⟨y_36, ey_36⟩ : ∃ y : Int32, y = j2_L2 + 1 := ⟨_, rfl⟩
            refine lv_iinc (v := y_36) (lv' := [(2, .int y_36), (0, .ref h), (1, .int x1)]) hx hb dX7_canBear_36 hl (k := 2) rfl ey_36.symm (by decide) rfl (fun ls hl => ?_)
            have f_36_2 : iR y_36 1 20 := iR_add ey_36 f_10_2 (iR_c (n := 1) (by decide +kernel) (by decide +kernel)) (by decide +kernel)
            refine lv_goto (tgt := 2) hx hb dX7_canBear_39 (by decide) ?_
            exact ih_2 y_36 (iR_w f_36_2 (by decide +kernel)) (m_up (B := 20) hm_2 ey_36 f_10_2 (by decide +kernel)) H locs ls hP hD hS (lv_sub hl [1, 2, 0] rfl)
          · have c_31 : ¬ j25_S0 = (f79 j2_L2.toNatClampNeg) := c_31
            refine lv_iconst (v := 0) hx hb dX7_canBear_34 (by decide +kernel) ?_
            exact k_ri B hP hD hS dX7_canBear_35 () [0, 1, 2] rfl rfl rfl (Nat.le_of_ble_eq_true rfl) (Nat.le_of_ble_eq_true rfl) (iR_c (n := 0) (by decide +kernel) (by decide +kernel))
        refine lv_icmp_le (tgt := 24) hx hb dX7_canBear_17 (by decide) (fun c_17 => ?_) (fun c_17 => ?_)
        · have c_17 : (f78 j2_L2.toNatClampNeg) ≤ x1 := c_17
          refine lv_iconst (v := 0) hx hb dX7_canBear_24 (by decide +kernel) ?_
          exact J_25 0 (iR_c (n := 0) (by decide +kernel) (by decide +kernel)) H locs ls hP hD hS (lv_sub hl [0, 1, 2] rfl)
        · have c_17 : x1 < (f78 j2_L2.toNatClampNeg) := i_nle c_17
          have f_20_4 : iR x1 (-2147483648) 2147483646 := iR_ltL c_17 (iR_top _) (iR_top _) (by decide +kernel)
          have f_20_5 : iR (f78 j2_L2.toNatClampNeg) (-2147483647) 2147483647 := iR_ltR c_17 (iR_top _) (iR_top _) (by decide +kernel)
          refine lv_iconst (v := 1) hx hb dX7_canBear_20 (by decide +kernel) ?_
          refine lv_goto (tgt := 25) hx hb dX7_canBear_21 (by decide) ?_
          exact J_25 1 (iR_c (n := 1) (by decide +kernel) (by decide +kernel)) H locs ls hP hD hS (lv_sub hl [0, 1, 2] rfl)
  refine lv_istore_n (lv' := [(2, .int 0), (0, .ref h), (1, .int x1)]) hx hb dX7_canBear_1 rfl hl (by decide) rfl (fun ls hl => ?_)
  exact J_2 _ 0 (iR_c (n := 0) (by decide +kernel) (by decide +kernel)) (Nat.lt_succ_self _) H locs ls hP hD hS (lv_sub hl [1, 2, 0] rfl)
set_option maxHeartbeats 8000000 in
set_option maxRecDepth 100000 in
theorem s_X7_put_v1 (l : Launch) (dC : Nat → ClassId) (dI : Nat → Nat → Nat) (cI cJ cZ cM : ClassId) (h : Nat) (r : Nat → Nat) (i : Nat → Int32) (j : Nat → Int64) (x1 : Int32) (f0 : Nat → Int32) (hm1 : iR (i 1) 0 1580) (hI : mR i) (hf0 : aR f0 0 255) : k_Mv l yX7_put wsX7_put ({ frames := 1, cells := 0, slots := 0, locals := 40 }) (dC, dI) vwCl (tyy cI cJ cZ cM) [(h, .inr (7, oM r i j)), ((r 0), .inl (cI, 1800, .inl f0))] [.ref h, .int x1] 0 0 (fun (u9 : SU) => [(h, .inr (7, oM r (upd i 1 (u9.1 0)) j)), ((r 0), .inl (cI, 1800, .inl (u9.2.2.1 0)))]) (fun (u9 : SU) => (iR (u9.1 0) 4 1584) ∧ (aR (u9.2.2.1 0) 0 255)) := by
  refine fun sz => k_enter (cc := cX7_put) (maxL := 3) (ret := none) (Qc := fun A => va_Qv (fun (u9 : SU) => (iR (u9.1 0) 4 1584) ∧ (aR (u9.2.2.1 0) 0 255)) (fun u => k_B (dC, dI) vwCl (tyy cI cJ cZ cM) A ((fun (u9 : SU) => [(h, .inr (7, oM r (upd i 1 (u9.1 0)) j)), ((r 0), .inl (cI, 1800, .inl (u9.2.2.1 0)))]) u)) A) sz (by decide +kernel) rfl (Nat.le_of_ble_eq_true rfl) (fun p e s m args below meth c A ls H locs B hP hD hS hl => ?_)
  obtain ⟨hx, hb, hml, hown, hts, hr, hlk, hnm, hK, hA, hN, hC⟩ := id B
  have hown : s.vm.findClass RX7 = some m.cls := hown
  have hl : lv_has ls 3 [(0, .ref h), (1, .int x1)] := hl
  have w_0 : (Cond.fieldLink RX7 7 "WishSeaModel" "tape" "[I").before args s = true := hts _ (List.mem_of_getElem? (i := 1) rfl)
  have w_1 : (Cond.fieldLink RX7 13 "WishSeaModel" "taped" "I").before args s = true := hts _ (List.mem_of_getElem? (i := 2) rfl)
  have hinX7 : ∀ w ∈ u_ws RX7 TX7 92, w ∈ wsX7_put := fun _ h => List.mem_cons_of_mem _ (List.mem_append_right _ h)
  refine lv_bipush (v := 24) hx hb dX7_put_0 (by decide +kernel) ?_
  refine lv_istore_n (lv' := [(2, .int 24), (0, .ref h), (1, .int x1)]) hx hb dX7_put_2 rfl hl (by decide) rfl (fun ls hl => ?_)
  refine lv_iload_n hx hb dX7_put_3 rfl (lv_at hl 0 rfl) ?_
  refine lv_if_lt (tgt := 39) hx hb dX7_put_4 (by decide) (fun q9 => absurd q9 (by decide +kernel)) (fun _ => ?_)
  refine lv_aload_n hx hb dX7_put_7 rfl (lv_at hl 1 rfl) ?_
  refine k_get (D := (dC, dI)) (ci := 7) (v := .ref (r 0)) (C := RX7) (T := TX7) (N := 92) hx hb hts hinX7 hown hK hP 0 rfl rfl 0 (by decide) w_0 rfl rfl dX7_put_8 ?_
  refine lv_aload_n hx hb dX7_put_11 rfl (lv_at hl 1 rfl) ?_
  refine k_get (D := (dC, dI)) (ci := 7) (v := .int (i 1)) (C := RX7) (T := TX7) (N := 92) hx hb hts hinX7 hown hK hP 0 rfl rfl 1 (by decide) w_1 rfl rfl dX7_put_12 ?_
  refine lv_iload_n hx hb dX7_put_15 rfl (lv_at hl 2 rfl) ?_
  refine lv_iload_n hx hb dX7_put_16 rfl (lv_at hl 0 rfl) ?_
  refine lv_ishr hx hb dX7_put_17 ?_
  refine lv_topi (fun y_17p2 ey_17p2 => ?_)
  refine lv_sipush (v := 255) hx hb dX7_put_18 (by decide +kernel) ?_
  refine lv_iand hx hb dX7_put_21 ?_
  refine lv_topi (fun y_21p2 ey_21p2 => ?_)
  have f_21p2_1 : iR y_21p2 0 255 := iR_andR ey_21p2 (iR_c (n := 255) (by decide +kernel) (by decide +kernel)) (by decide +kernel)
  refine s_iast (g := (upd f0 (i 1).toNatClampNeg y_21p2)) (ws' := [(h, .inr (7, oM r i j)), ((r 0), .inl (cI, 1800, .inl (upd f0 (i 1).toNatClampNeg y_21p2)))]) hx hb hK hP hD hS 1 0 rfl rfl (iR_vp hm1 (by decide +kernel)) rfl rfl dX7_put_22 (fun H locs hP hD hS => ?_)
  refine lv_aload_n hx hb dX7_put_23 rfl (lv_at hl 1 rfl) ?_
  refine lv_dup hx hb dX7_put_24 rfl ?_
  refine k_get (D := (dC, dI)) (ci := 7) (v := .int (i 1)) (C := RX7) (T := TX7) (N := 92) hx hb hts hinX7 hown hK hP 0 rfl rfl 1 (by decide) w_1 rfl rfl dX7_put_25 ?_
  refine lv_iconst (v := 1) hx hb dX7_put_28 (by decide +kernel) ?_
  refine lv_iadd hx hb dX7_put_29 ?_
  refine lv_topi (fun y_29p2 ey_29p2 => ?_)
  have f_29p2_2 : iR y_29p2 1 1581 := iR_add ey_29p2 hm1 (iR_c (n := 1) (by decide +kernel) (by decide +kernel)) (by decide +kernel)
  refine k_put (D := (dC, dI)) (ci := 7) (v := .int y_29p2) (C := RX7) (T := TX7) (N := 92) (ws' := [(h, .inr (7, oM r (upd i 1 y_29p2) j)), ((r 0), .inl (cI, 1800, .inl (upd f0 (i 1).toNatClampNeg y_21p2)))]) hx hb hts hinX7 tyX7 tyX7_ok nmX7 hown hK hP hD hS 0 rfl rfl 1 (by decide) w_1 rfl rfl rfl rfl (Nat.le_of_ble_eq_true rfl) rfl dX7_put_30 (fun H locs hP hD hS => ?_)
  refine lv_iinc (v := 16) (lv' := [(2, .int 16), (0, .ref h), (1, .int x1)]) hx hb dX7_put_33 hl (k := 0) rfl (by decide +kernel) (by decide) rfl (fun ls hl => ?_)
  refine lv_goto (tgt := 3) hx hb dX7_put_36 (by decide) ?_
  refine lv_iload_n hx hb dX7_put_3 rfl (lv_at hl 0 rfl) ?_
  refine lv_if_lt (tgt := 39) hx hb dX7_put_4 (by decide) (fun q9 => absurd q9 (by decide +kernel)) (fun _ => ?_)
  refine lv_aload_n hx hb dX7_put_7 rfl (lv_at hl 1 rfl) ?_
  refine k_get (D := (dC, dI)) (ci := 7) (v := .ref (r 0)) (C := RX7) (T := TX7) (N := 92) hx hb hts hinX7 hown hK hP 0 rfl rfl 0 (by decide) w_0 rfl rfl dX7_put_8 ?_
  refine lv_aload_n hx hb dX7_put_11 rfl (lv_at hl 1 rfl) ?_
  refine k_get (D := (dC, dI)) (ci := 7) (v := .int y_29p2) (C := RX7) (T := TX7) (N := 92) hx hb hts hinX7 hown hK hP 0 rfl rfl 1 (by decide) w_1 rfl rfl dX7_put_12 ?_
  refine lv_iload_n hx hb dX7_put_15 rfl (lv_at hl 2 rfl) ?_
  refine lv_iload_n hx hb dX7_put_16 rfl (lv_at hl 0 rfl) ?_
  refine lv_ishr hx hb dX7_put_17 ?_
  refine lv_topi (fun y_17p2p36 ey_17p2p36 => ?_)
  refine lv_sipush (v := 255) hx hb dX7_put_18 (by decide +kernel) ?_
  refine lv_iand hx hb dX7_put_21 ?_
  refine lv_topi (fun y_21p2p36 ey_21p2p36 => ?_)
  have f_21p2p36_3 : iR y_21p2p36 0 255 := iR_andR ey_21p2p36 (iR_c (n := 255) (by decide +kernel) (by decide +kernel)) (by decide +kernel)
  refine s_iast (g := (upd (upd f0 (i 1).toNatClampNeg y_21p2) y_29p2.toNatClampNeg y_21p2p36)) (ws' := [(h, .inr (7, oM r (upd i 1 y_29p2) j)), ((r 0), .inl (cI, 1800, .inl (upd (upd f0 (i 1).toNatClampNeg y_21p2) y_29p2.toNatClampNeg y_21p2p36)))]) hx hb hK hP hD hS 1 0 rfl rfl (iR_vp f_29p2_2 (by decide +kernel)) rfl rfl dX7_put_22 (fun H locs hP hD hS => ?_)
  refine lv_aload_n hx hb dX7_put_23 rfl (lv_at hl 1 rfl) ?_
  refine lv_dup hx hb dX7_put_24 rfl ?_
  refine k_get (D := (dC, dI)) (ci := 7) (v := .int y_29p2) (C := RX7) (T := TX7) (N := 92) hx hb hts hinX7 hown hK hP 0 rfl rfl 1 (by decide) w_1 rfl rfl dX7_put_25 ?_
  refine lv_iconst (v := 1) hx hb dX7_put_28 (by decide +kernel) ?_
  refine lv_iadd hx hb dX7_put_29 ?_
  refine lv_topi (fun y_29p2p36 ey_29p2p36 => ?_)
  have f_29p2p36_4 : iR y_29p2p36 2 1582 := iR_add ey_29p2p36 f_29p2_2 (iR_c (n := 1) (by decide +kernel) (by decide +kernel)) (by decide +kernel)
  refine k_put (D := (dC, dI)) (ci := 7) (v := .int y_29p2p36) (C := RX7) (T := TX7) (N := 92) (ws' := [(h, .inr (7, oM r (upd i 1 y_29p2p36) j)), ((r 0), .inl (cI, 1800, .inl (upd (upd f0 (i 1).toNatClampNeg y_21p2) y_29p2.toNatClampNeg y_21p2p36)))]) hx hb hts hinX7 tyX7 tyX7_ok nmX7 hown hK hP hD hS 0 rfl rfl 1 (by decide) w_1 rfl rfl rfl rfl (Nat.le_of_ble_eq_true rfl) rfl dX7_put_30 (fun H locs hP hD hS => ?_)
  refine lv_iinc (v := 8) (lv' := [(2, .int 8), (0, .ref h), (1, .int x1)]) hx hb dX7_put_33 hl (k := 0) rfl (by decide +kernel) (by decide) rfl (fun ls hl => ?_)
  refine lv_goto (tgt := 3) hx hb dX7_put_36 (by decide) ?_
  refine lv_iload_n hx hb dX7_put_3 rfl (lv_at hl 0 rfl) ?_
  refine lv_if_lt (tgt := 39) hx hb dX7_put_4 (by decide) (fun q9 => absurd q9 (by decide +kernel)) (fun _ => ?_)
  refine lv_aload_n hx hb dX7_put_7 rfl (lv_at hl 1 rfl) ?_
  refine k_get (D := (dC, dI)) (ci := 7) (v := .ref (r 0)) (C := RX7) (T := TX7) (N := 92) hx hb hts hinX7 hown hK hP 0 rfl rfl 0 (by decide) w_0 rfl rfl dX7_put_8 ?_
  refine lv_aload_n hx hb dX7_put_11 rfl (lv_at hl 1 rfl) ?_
  refine k_get (D := (dC, dI)) (ci := 7) (v := .int y_29p2p36) (C := RX7) (T := TX7) (N := 92) hx hb hts hinX7 hown hK hP 0 rfl rfl 1 (by decide) w_1 rfl rfl dX7_put_12 ?_
  refine lv_iload_n hx hb dX7_put_15 rfl (lv_at hl 2 rfl) ?_
  refine lv_iload_n hx hb dX7_put_16 rfl (lv_at hl 0 rfl) ?_
  refine lv_ishr hx hb dX7_put_17 ?_
  refine lv_topi (fun y_17p2p36p36 ey_17p2p36p36 => ?_)
  refine lv_sipush (v := 255) hx hb dX7_put_18 (by decide +kernel) ?_
  refine lv_iand hx hb dX7_put_21 ?_
  refine lv_topi (fun y_21p2p36p36 ey_21p2p36p36 => ?_)
  have f_21p2p36p36_5 : iR y_21p2p36p36 0 255 := iR_andR ey_21p2p36p36 (iR_c (n := 255) (by decide +kernel) (by decide +kernel)) (by decide +kernel)
  refine s_iast (g := (upd (upd (upd f0 (i 1).toNatClampNeg y_21p2) y_29p2.toNatClampNeg y_21p2p36) y_29p2p36.toNatClampNeg y_21p2p36p36)) (ws' := [(h, .inr (7, oM r (upd i 1 y_29p2p36) j)), ((r 0), .inl (cI, 1800, .inl (upd (upd (upd f0 (i 1).toNatClampNeg y_21p2) y_29p2.toNatClampNeg y_21p2p36) y_29p2p36.toNatClampNeg y_21p2p36p36)))]) hx hb hK hP hD hS 1 0 rfl rfl (iR_vp f_29p2p36_4 (by decide +kernel)) rfl rfl dX7_put_22 (fun H locs hP hD hS => ?_)
  refine lv_aload_n hx hb dX7_put_23 rfl (lv_at hl 1 rfl) ?_
  refine lv_dup hx hb dX7_put_24 rfl ?_
  refine k_get (D := (dC, dI)) (ci := 7) (v := .int y_29p2p36) (C := RX7) (T := TX7) (N := 92) hx hb hts hinX7 hown hK hP 0 rfl rfl 1 (by decide) w_1 rfl rfl dX7_put_25 ?_
  refine lv_iconst (v := 1) hx hb dX7_put_28 (by decide +kernel) ?_
  refine lv_iadd hx hb dX7_put_29 ?_
  refine lv_topi (fun y_29p2p36p36 ey_29p2p36p36 => ?_)
  have f_29p2p36p36_6 : iR y_29p2p36p36 3 1583 := iR_add ey_29p2p36p36 f_29p2p36_4 (iR_c (n := 1) (by decide +kernel) (by decide +kernel)) (by decide +kernel)
  refine k_put (D := (dC, dI)) (ci := 7) (v := .int y_29p2p36p36) (C := RX7) (T := TX7) (N := 92) (ws' := [(h, .inr (7, oM r (upd i 1 y_29p2p36p36) j)), ((r 0), .inl (cI, 1800, .inl (upd (upd (upd f0 (i 1).toNatClampNeg y_21p2) y_29p2.toNatClampNeg y_21p2p36) y_29p2p36.toNatClampNeg y_21p2p36p36)))]) hx hb hts hinX7 tyX7 tyX7_ok nmX7 hown hK hP hD hS 0 rfl rfl 1 (by decide) w_1 rfl rfl rfl rfl (Nat.le_of_ble_eq_true rfl) rfl dX7_put_30 (fun H locs hP hD hS => ?_)
  refine lv_iinc (v := 0) (lv' := [(2, .int 0), (0, .ref h), (1, .int x1)]) hx hb dX7_put_33 hl (k := 0) rfl (by decide +kernel) (by decide) rfl (fun ls hl => ?_)
  refine lv_goto (tgt := 3) hx hb dX7_put_36 (by decide) ?_
  refine lv_iload_n hx hb dX7_put_3 rfl (lv_at hl 0 rfl) ?_
  refine lv_if_lt (tgt := 39) hx hb dX7_put_4 (by decide) (fun q9 => absurd q9 (by decide +kernel)) (fun _ => ?_)
  refine lv_aload_n hx hb dX7_put_7 rfl (lv_at hl 1 rfl) ?_
  refine k_get (D := (dC, dI)) (ci := 7) (v := .ref (r 0)) (C := RX7) (T := TX7) (N := 92) hx hb hts hinX7 hown hK hP 0 rfl rfl 0 (by decide) w_0 rfl rfl dX7_put_8 ?_
  refine lv_aload_n hx hb dX7_put_11 rfl (lv_at hl 1 rfl) ?_
  refine k_get (D := (dC, dI)) (ci := 7) (v := .int y_29p2p36p36) (C := RX7) (T := TX7) (N := 92) hx hb hts hinX7 hown hK hP 0 rfl rfl 1 (by decide) w_1 rfl rfl dX7_put_12 ?_
  refine lv_iload_n hx hb dX7_put_15 rfl (lv_at hl 2 rfl) ?_
  refine lv_iload_n hx hb dX7_put_16 rfl (lv_at hl 0 rfl) ?_
  refine lv_ishr hx hb dX7_put_17 ?_
  refine lv_topi (fun y_17p2p36p36p36 ey_17p2p36p36p36 => ?_)
  refine lv_sipush (v := 255) hx hb dX7_put_18 (by decide +kernel) ?_
  refine lv_iand hx hb dX7_put_21 ?_
  refine lv_topi (fun y_21p2p36p36p36 ey_21p2p36p36p36 => ?_)
  have f_21p2p36p36p36_7 : iR y_21p2p36p36p36 0 255 := iR_andR ey_21p2p36p36p36 (iR_c (n := 255) (by decide +kernel) (by decide +kernel)) (by decide +kernel)
  refine s_iast (g := (upd (upd (upd (upd f0 (i 1).toNatClampNeg y_21p2) y_29p2.toNatClampNeg y_21p2p36) y_29p2p36.toNatClampNeg y_21p2p36p36) y_29p2p36p36.toNatClampNeg y_21p2p36p36p36)) (ws' := [(h, .inr (7, oM r (upd i 1 y_29p2p36p36) j)), ((r 0), .inl (cI, 1800, .inl (upd (upd (upd (upd f0 (i 1).toNatClampNeg y_21p2) y_29p2.toNatClampNeg y_21p2p36) y_29p2p36.toNatClampNeg y_21p2p36p36) y_29p2p36p36.toNatClampNeg y_21p2p36p36p36)))]) hx hb hK hP hD hS 1 0 rfl rfl (iR_vp f_29p2p36p36_6 (by decide +kernel)) rfl rfl dX7_put_22 (fun H locs hP hD hS => ?_)
  refine lv_aload_n hx hb dX7_put_23 rfl (lv_at hl 1 rfl) ?_
  refine lv_dup hx hb dX7_put_24 rfl ?_
  refine k_get (D := (dC, dI)) (ci := 7) (v := .int y_29p2p36p36) (C := RX7) (T := TX7) (N := 92) hx hb hts hinX7 hown hK hP 0 rfl rfl 1 (by decide) w_1 rfl rfl dX7_put_25 ?_
  refine lv_iconst (v := 1) hx hb dX7_put_28 (by decide +kernel) ?_
  refine lv_iadd hx hb dX7_put_29 ?_
  refine lv_topi (fun y_29p2p36p36p36 ey_29p2p36p36p36 => ?_)
  have f_29p2p36p36p36_8 : iR y_29p2p36p36p36 4 1584 := iR_add ey_29p2p36p36p36 f_29p2p36p36_6 (iR_c (n := 1) (by decide +kernel) (by decide +kernel)) (by decide +kernel)
  refine k_put (D := (dC, dI)) (ci := 7) (v := .int y_29p2p36p36p36) (C := RX7) (T := TX7) (N := 92) (ws' := [(h, .inr (7, oM r (upd i 1 y_29p2p36p36p36) j)), ((r 0), .inl (cI, 1800, .inl (upd (upd (upd (upd f0 (i 1).toNatClampNeg y_21p2) y_29p2.toNatClampNeg y_21p2p36) y_29p2p36.toNatClampNeg y_21p2p36p36) y_29p2p36p36.toNatClampNeg y_21p2p36p36p36)))]) hx hb hts hinX7 tyX7 tyX7_ok nmX7 hown hK hP hD hS 0 rfl rfl 1 (by decide) w_1 rfl rfl rfl rfl (Nat.le_of_ble_eq_true rfl) rfl dX7_put_30 (fun H locs hP hD hS => ?_)
  refine lv_iinc (v := (-8)) (lv' := [(2, .int (-8)), (0, .ref h), (1, .int x1)]) hx hb dX7_put_33 hl (k := 0) rfl (by decide +kernel) (by decide) rfl (fun ls hl => ?_)
  refine lv_goto (tgt := 3) hx hb dX7_put_36 (by decide) ?_
  refine lv_iload_n hx hb dX7_put_3 rfl (lv_at hl 0 rfl) ?_
  refine lv_if_lt (tgt := 39) hx hb dX7_put_4 (by decide) (fun _ => ?_) (fun q9 => absurd q9 (by decide +kernel))
  exact k_rv B hP hD hS dX7_put_39 ((fun k9 => match k9 with | 0 => y_29p2p36p36p36 | _ => 0), (fun _ => 0), (fun k9 => match k9 with | 0 => (upd (upd (upd (upd f0 (i 1).toNatClampNeg y_21p2) y_29p2.toNatClampNeg y_21p2p36) y_29p2p36.toNatClampNeg y_21p2p36p36) y_29p2p36p36.toNatClampNeg y_21p2p36p36p36) | _ => (fun _ => 0)), (fun _ => (fun _ => 0)), (fun _ => 0)) [0, 1] rfl rfl (Nat.le_of_ble_eq_true rfl) (Nat.le_of_ble_eq_true rfl) ⟨f_29p2p36p36p36_8, (aR_upd _ (aR_upd _ (aR_upd _ (aR_upd _ hf0 f_21p2_1) f_21p2p36_3) f_21p2p36p36_5) f_21p2p36p36p36_7)⟩
