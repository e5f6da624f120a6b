set_option maxHeartbeats 8000000 in
set_option maxRecDepth 100000 in
theorem s_X7_twoBytes_v8 (l : Launch) (dC : Nat → ClassId) (dI : Nat → Nat → Nat) (cI cJ cZ cM : ClassId) (h : Nat) (r : Nat → Nat) (i : Nat → Int32) (j : Nat → Int64) (f0 : Nat → Int32) (hI : mR i) (hf0 : aR f0 0 255) : k_Mi l yX7_twoBytes wsX7_twoBytes ({ frames := 1, cells := 0, slots := 0, locals := 40 }) (dC, dI) vwCl (tyy cI cJ cZ cM) [(h, .inr (7, oM r i j)), ((r 0), .inl (cI, 1800, .inl f0))] [.ref h, .int 0] 0 0 (fun (u9 : Unit) => [(h, .inr (7, oM r i j)), ((r 0), .inl (cI, 1800, .inl f0))]) (fun (r9 : Int32) (u9 : Unit) => (iR r9 0 65535) ∧ (r9 = (w2b f0 0))) := by
  refine fun sz => k_enter (cc := cX7_twoBytes) (maxL := 2) (ret := some (.int)) (Qc := fun A => va_Qi (fun (r9 : Int32) (u9 : Unit) => (iR r9 0 65535) ∧ (r9 = (w2b f0 0))) (fun u => k_B (dC, dI) vwCl (tyy cI cJ cZ cM) A ((fun (u9 : Unit) => [(h, .inr (7, oM r i j)), ((r 0), .inl (cI, 1800, .inl f0))]) u)) A) sz (by decide +kernel) rfl (Nat.le_of_ble_eq_true rfl) (fun p e s m args below meth c A ls H locs B hP hD hS hl => ?_)
  obtain ⟨hx, hb, hml, hown, hts, hr, hlk, hnm, hK, hA, hN, hC⟩ := id B
  have hown : s.vm.findClass RX7 = some m.cls := hown
  have hl : lv_has ls 2 [(0, .ref h), (1, .int 0)] := hl
  have w_0 : (Cond.fieldLink RX7 7 "WishSeaModel" "tape" "[I").before args s = true := hts _ (List.mem_of_getElem? (i := 1) rfl)
  have hinX7 : ∀ w ∈ u_ws RX7 TX7 92, w ∈ wsX7_twoBytes := fun _ h => List.mem_cons_of_mem _ (List.mem_append_right _ h)
  refine lv_aload_n hx hb dX7_twoBytes_0 rfl (lv_at hl 0 rfl) ?_
  refine k_get (D := (dC, dI)) (ci := 7) (v := .ref (r 0)) (C := RX7) (T := TX7) (N := 92) hx hb hts hinX7 hown hK hP 0 rfl rfl 0 (by decide) w_0 rfl rfl dX7_twoBytes_1 ?_
  refine lv_iload_n hx hb dX7_twoBytes_4 rfl (lv_at hl 1 rfl) ?_
  refine k_iald (v := (f0 0)) hx hb hK hP 1 0 0 rfl rfl rfl (Nat.le_of_ble_eq_true rfl) (Nat.le_of_ble_eq_true rfl) rfl dX7_twoBytes_5 ?_
  have f_5_1 : iR (f0 0) 0 255 := hf0 _
  refine lv_bipush (v := 8) hx hb dX7_twoBytes_6 (by decide +kernel) ?_
  refine lv_ishl hx hb dX7_twoBytes_8 ?_
  refine lv_topi (fun y_8 ey_8 => ?_)
  have f_8_2 : iR y_8 0 65280 := iR_shl 8 ey_8 f_5_1 (iR_c (n := 8) (a := 8) (b := 8) (by decide +kernel) (by decide +kernel)) (by decide +kernel)
  refine lv_aload_n hx hb dX7_twoBytes_9 rfl (lv_at hl 0 rfl) ?_
  refine k_get (D := (dC, dI)) (ci := 7) (v := .ref (r 0)) (C := RX7) (T := TX7) (N := 92) hx hb hts hinX7 hown hK hP 0 rfl rfl 0 (by decide) w_0 rfl rfl dX7_twoBytes_10 ?_
  refine lv_iload_n hx hb dX7_twoBytes_13 rfl (lv_at hl 1 rfl) ?_
  refine lv_iconst (v := 1) hx hb dX7_twoBytes_14 (by decide +kernel) ?_
  refine lv_iadd hx hb dX7_twoBytes_15 ?_
  refine k_int (v := 1) (by decide +kernel) ?_
  refine k_iald (v := (f0 1)) hx hb hK hP 1 0 1 rfl rfl rfl (Nat.le_of_ble_eq_true rfl) (Nat.le_of_ble_eq_true rfl) rfl dX7_twoBytes_16 ?_
  have f_16_3 : iR (f0 1) 0 255 := hf0 _
  refine lv_ior hx hb dX7_twoBytes_17 ?_
  refine lv_topi (fun y_17 ey_17 => ?_)
  have f_17_4 : iR y_17 0 65535 := iR_or 16 ey_17 f_8_2 f_16_3 (by decide +kernel)
  exact k_ri B hP hD hS dX7_twoBytes_18 () [0, 1] rfl rfl rfl (Nat.le_of_ble_eq_true rfl) (Nat.le_of_ble_eq_true rfl) ⟨(show iR y_17 0 65535 from f_17_4), (show y_17 = (w2b f0 0) from (by rw [ey_17, ey_8]; rfl))⟩
set_option maxHeartbeats 8000000 in
set_option maxRecDepth 100000 in
theorem s_X7_twoBytes_v9 (l : Launch) (dC : Nat → ClassId) (dI : Nat → Nat → Nat) (cI cJ cZ cM : ClassId) (h : Nat) (r : Nat → Nat) (i : Nat → Int32) (j : Nat → Int64) (f0 : Nat → Int32) (hI : mR i) (hf0 : aR f0 0 255) : k_Mi l yX7_twoBytes wsX7_twoBytes ({ frames := 1, cells := 0, slots := 0, locals := 40 }) (dC, dI) vwCl (tyy cI cJ cZ cM) [(h, .inr (7, oM r i j)), ((r 0), .inl (cI, 1800, .inl f0))] [.ref h, .int 2] 0 0 (fun (u9 : Unit) => [(h, .inr (7, oM r i j)), ((r 0), .inl (cI, 1800, .inl f0))]) (fun (r9 : Int32) (u9 : Unit) => (iR r9 0 65535) ∧ (r9 = (w2b f0 2))) := by
  refine fun sz => k_enter (cc := cX7_twoBytes) (maxL := 2) (ret := some (.int)) (Qc := fun A => va_Qi (fun (r9 : Int32) (u9 : Unit) => (iR r9 0 65535) ∧ (r9 = (w2b f0 2))) (fun u => k_B (dC, dI) vwCl (tyy cI cJ cZ cM) A ((fun (u9 : Unit) => [(h, .inr (7, oM r i j)), ((r 0), .inl (cI, 1800, .inl f0))]) u)) A) sz (by decide +kernel) rfl (Nat.le_of_ble_eq_true rfl) (fun p e s m args below meth c A ls H locs B hP hD hS hl => ?_)
  obtain ⟨hx, hb, hml, hown, hts, hr, hlk, hnm, hK, hA, hN, hC⟩ := id B
  have hown : s.vm.findClass RX7 = some m.cls := hown
  have hl : lv_has ls 2 [(0, .ref h), (1, .int 2)] := hl
  have w_0 : (Cond.fieldLink RX7 7 "WishSeaModel" "tape" "[I").before args s = true := hts _ (List.mem_of_getElem? (i := 1) rfl)
  have hinX7 : ∀ w ∈ u_ws RX7 TX7 92, w ∈ wsX7_twoBytes := fun _ h => List.mem_cons_of_mem _ (List.mem_append_right _ h)
  refine lv_aload_n hx hb dX7_twoBytes_0 rfl (lv_at hl 0 rfl) ?_
  refine k_get (D := (dC, dI)) (ci := 7) (v := .ref (r 0)) (C := RX7) (T := TX7) (N := 92) hx hb hts hinX7 hown hK hP 0 rfl rfl 0 (by decide) w_0 rfl rfl dX7_twoBytes_1 ?_
  refine lv_iload_n hx hb dX7_twoBytes_4 rfl (lv_at hl 1 rfl) ?_
  refine k_iald (v := (f0 2)) hx hb hK hP 1 0 2 rfl rfl rfl (Nat.le_of_ble_eq_true rfl) (Nat.le_of_ble_eq_true rfl) rfl dX7_twoBytes_5 ?_
  have f_5_1 : iR (f0 2) 0 255 := hf0 _
  refine lv_bipush (v := 8) hx hb dX7_twoBytes_6 (by decide +kernel) ?_
  refine lv_ishl hx hb dX7_twoBytes_8 ?_
  refine lv_topi (fun y_8 ey_8 => ?_)
  have f_8_2 : iR y_8 0 65280 := iR_shl 8 ey_8 f_5_1 (iR_c (n := 8) (a := 8) (b := 8) (by decide +kernel) (by decide +kernel)) (by decide +kernel)
  refine lv_aload_n hx hb dX7_twoBytes_9 rfl (lv_at hl 0 rfl) ?_
  refine k_get (D := (dC, dI)) (ci := 7) (v := .ref (r 0)) (C := RX7) (T := TX7) (N := 92) hx hb hts hinX7 hown hK hP 0 rfl rfl 0 (by decide) w_0 rfl rfl dX7_twoBytes_10 ?_
  refine lv_iload_n hx hb dX7_twoBytes_13 rfl (lv_at hl 1 rfl) ?_
  refine lv_iconst (v := 1) hx hb dX7_twoBytes_14 (by decide +kernel) ?_
  refine lv_iadd hx hb dX7_twoBytes_15 ?_
  refine k_int (v := 3) (by decide +kernel) ?_
  refine k_iald (v := (f0 3)) hx hb hK hP 1 0 3 rfl rfl rfl (Nat.le_of_ble_eq_true rfl) (Nat.le_of_ble_eq_true rfl) rfl dX7_twoBytes_16 ?_
  have f_16_3 : iR (f0 3) 0 255 := hf0 _
  refine lv_ior hx hb dX7_twoBytes_17 ?_
  refine lv_topi (fun y_17 ey_17 => ?_)
  have f_17_4 : iR y_17 0 65535 := iR_or 16 ey_17 f_8_2 f_16_3 (by decide +kernel)
  exact k_ri B hP hD hS dX7_twoBytes_18 () [0, 1] rfl rfl rfl (Nat.le_of_ble_eq_true rfl) (Nat.le_of_ble_eq_true rfl) ⟨(show iR y_17 0 65535 from f_17_4), (show y_17 = (w2b f0 2) from (by rw [ey_17, ey_8]; rfl))⟩
set_option maxHeartbeats 8000000 in
set_option maxRecDepth 100000 in
theorem s_X7_twoBytes_v10 (l : Launch) (dC : Nat → ClassId) (dI : Nat → Nat → Nat) (cI cJ cZ cM : ClassId) (h : Nat) (r : Nat → Nat) (i : Nat → Int32) (j : Nat → Int64) (f0 : Nat → Int32) (hI : mR i) (hf0 : aR f0 0 255) : k_Mi l yX7_twoBytes wsX7_twoBytes ({ frames := 1, cells := 0, slots := 0, locals := 40 }) (dC, dI) vwCl (tyy cI cJ cZ cM) [(h, .inr (7, oM r i j)), ((r 0), .inl (cI, 1800, .inl f0))] [.ref h, .int 4] 0 0 (fun (u9 : Unit) => [(h, .inr (7, oM r i j)), ((r 0), .inl (cI, 1800, .inl f0))]) (fun (r9 : Int32) (u9 : Unit) => (iR r9 0 65535) ∧ (r9 = (w2b f0 4))) := by
  refine fun sz => k_enter (cc := cX7_twoBytes) (maxL := 2) (ret := some (.int)) (Qc := fun A => va_Qi (fun (r9 : Int32) (u9 : Unit) => (iR r9 0 65535) ∧ (r9 = (w2b f0 4))) (fun u => k_B (dC, dI) vwCl (tyy cI cJ cZ cM) A ((fun (u9 : Unit) => [(h, .inr (7, oM r i j)), ((r 0), .inl (cI, 1800, .inl f0))]) u)) A) sz (by decide +kernel) rfl (Nat.le_of_ble_eq_true rfl) (fun p e s m args below meth c A ls H locs B hP hD hS hl => ?_)
  obtain ⟨hx, hb, hml, hown, hts, hr, hlk, hnm, hK, hA, hN, hC⟩ := id B
  have hown : s.vm.findClass RX7 = some m.cls := hown
  have hl : lv_has ls 2 [(0, .ref h), (1, .int 4)] := hl
  have w_0 : (Cond.fieldLink RX7 7 "WishSeaModel" "tape" "[I").before args s = true := hts _ (List.mem_of_getElem? (i := 1) rfl)
  have hinX7 : ∀ w ∈ u_ws RX7 TX7 92, w ∈ wsX7_twoBytes := fun _ h => List.mem_cons_of_mem _ (List.mem_append_right _ h)
  refine lv_aload_n hx hb dX7_twoBytes_0 rfl (lv_at hl 0 rfl) ?_
  refine k_get (D := (dC, dI)) (ci := 7) (v := .ref (r 0)) (C := RX7) (T := TX7) (N := 92) hx hb hts hinX7 hown hK hP 0 rfl rfl 0 (by decide) w_0 rfl rfl dX7_twoBytes_1 ?_
  refine lv_iload_n hx hb dX7_twoBytes_4 rfl (lv_at hl 1 rfl) ?_
  refine k_iald (v := (f0 4)) hx hb hK hP 1 0 4 rfl rfl rfl (Nat.le_of_ble_eq_true rfl) (Nat.le_of_ble_eq_true rfl) rfl dX7_twoBytes_5 ?_
  have f_5_1 : iR (f0 4) 0 255 := hf0 _
  refine lv_bipush (v := 8) hx hb dX7_twoBytes_6 (by decide +kernel) ?_
  refine lv_ishl hx hb dX7_twoBytes_8 ?_
  refine lv_topi (fun y_8 ey_8 => ?_)
  have f_8_2 : iR y_8 0 65280 := iR_shl 8 ey_8 f_5_1 (iR_c (n := 8) (a := 8) (b := 8) (by decide +kernel) (by decide +kernel)) (by decide +kernel)
  refine lv_aload_n hx hb dX7_twoBytes_9 rfl (lv_at hl 0 rfl) ?_
  refine k_get (D := (dC, dI)) (ci := 7) (v := .ref (r 0)) (C := RX7) (T := TX7) (N := 92) hx hb hts hinX7 hown hK hP 0 rfl rfl 0 (by decide) w_0 rfl rfl dX7_twoBytes_10 ?_
  refine lv_iload_n hx hb dX7_twoBytes_13 rfl (lv_at hl 1 rfl) ?_
  refine lv_iconst (v := 1) hx hb dX7_twoBytes_14 (by decide +kernel) ?_
  refine lv_iadd hx hb dX7_twoBytes_15 ?_
  refine k_int (v := 5) (by decide +kernel) ?_
  refine k_iald (v := (f0 5)) hx hb hK hP 1 0 5 rfl rfl rfl (Nat.le_of_ble_eq_true rfl) (Nat.le_of_ble_eq_true rfl) rfl dX7_twoBytes_16 ?_
  have f_16_3 : iR (f0 5) 0 255 := hf0 _
  refine lv_ior hx hb dX7_twoBytes_17 ?_
  refine lv_topi (fun y_17 ey_17 => ?_)
  have f_17_4 : iR y_17 0 65535 := iR_or 16 ey_17 f_8_2 f_16_3 (by decide +kernel)
  exact k_ri B hP hD hS dX7_twoBytes_18 () [0, 1] rfl rfl rfl (Nat.le_of_ble_eq_true rfl) (Nat.le_of_ble_eq_true rfl) ⟨(show iR y_17 0 65535 from f_17_4), (show y_17 = (w2b f0 4) from (by rw [ey_17, ey_8]; rfl))⟩
set_option maxHeartbeats 8000000 in
set_option maxRecDepth 100000 in
theorem s_X7_twoBytes_v11 (l : Launch) (dC : Nat → ClassId) (dI : Nat → Nat → Nat) (cI cJ cZ cM : ClassId) (h : Nat) (r : Nat → Nat) (i : Nat → Int32) (j : Nat → Int64) (f0 : Nat → Int32) (hI : mR i) (hf0 : aR f0 0 255) : k_Mi l yX7_twoBytes wsX7_twoBytes ({ frames := 1, cells := 0, slots := 0, locals := 40 }) (dC, dI) vwCl (tyy cI cJ cZ cM) [(h, .inr (7, oM r i j)), ((r 0), .inl (cI, 1800, .inl f0))] [.ref h, .int 6] 0 0 (fun (u9 : Unit) => [(h, .inr (7, oM r i j)), ((r 0), .inl (cI, 1800, .inl f0))]) (fun (r9 : Int32) (u9 : Unit) => (iR r9 0 65535) ∧ (r9 = (w2b f0 6))) := by
  refine fun sz => k_enter (cc := cX7_twoBytes) (maxL := 2) (ret := some (.int)) (Qc := fun A => va_Qi (fun (r9 : Int32) (u9 : Unit) => (iR r9 0 65535) ∧ (r9 = (w2b f0 6))) (fun u => k_B (dC, dI) vwCl (tyy cI cJ cZ cM) A ((fun (u9 : Unit) => [(h, .inr (7, oM r i j)), ((r 0), .inl (cI, 1800, .inl f0))]) u)) A) sz (by decide +kernel) rfl (Nat.le_of_ble_eq_true rfl) (fun p e s m args below meth c A ls H locs B hP hD hS hl => ?_)
  obtain ⟨hx, hb, hml, hown, hts, hr, hlk, hnm, hK, hA, hN, hC⟩ := id B
  have hown : s.vm.findClass RX7 = some m.cls := hown
  have hl : lv_has ls 2 [(0, .ref h), (1, .int 6)] := hl
  have w_0 : (Cond.fieldLink RX7 7 "WishSeaModel" "tape" "[I").before args s = true := hts _ (List.mem_of_getElem? (i := 1) rfl)
  have hinX7 : ∀ w ∈ u_ws RX7 TX7 92, w ∈ wsX7_twoBytes := fun _ h => List.mem_cons_of_mem _ (List.mem_append_right _ h)
  refine lv_aload_n hx hb dX7_twoBytes_0 rfl (lv_at hl 0 rfl) ?_
  refine k_get (D := (dC, dI)) (ci := 7) (v := .ref (r 0)) (C := RX7) (T := TX7) (N := 92) hx hb hts hinX7 hown hK hP 0 rfl rfl 0 (by decide) w_0 rfl rfl dX7_twoBytes_1 ?_
  refine lv_iload_n hx hb dX7_twoBytes_4 rfl (lv_at hl 1 rfl) ?_
  refine k_iald (v := (f0 6)) hx hb hK hP 1 0 6 rfl rfl rfl (Nat.le_of_ble_eq_true rfl) (Nat.le_of_ble_eq_true rfl) rfl dX7_twoBytes_5 ?_
  have f_5_1 : iR (f0 6) 0 255 := hf0 _
  refine lv_bipush (v := 8) hx hb dX7_twoBytes_6 (by decide +kernel) ?_
  refine lv_ishl hx hb dX7_twoBytes_8 ?_
  refine lv_topi (fun y_8 ey_8 => ?_)
  have f_8_2 : iR y_8 0 65280 := iR_shl 8 ey_8 f_5_1 (iR_c (n := 8) (a := 8) (b := 8) (by decide +kernel) (by decide +kernel)) (by decide +kernel)
  refine lv_aload_n hx hb dX7_twoBytes_9 rfl (lv_at hl 0 rfl) ?_
  refine k_get (D := (dC, dI)) (ci := 7) (v := .ref (r 0)) (C := RX7) (T := TX7) (N := 92) hx hb hts hinX7 hown hK hP 0 rfl rfl 0 (by decide) w_0 rfl rfl dX7_twoBytes_10 ?_
  refine lv_iload_n hx hb dX7_twoBytes_13 rfl (lv_at hl 1 rfl) ?_
  refine lv_iconst (v := 1) hx hb dX7_twoBytes_14 (by decide +kernel) ?_
  refine lv_iadd hx hb dX7_twoBytes_15 ?_
  refine k_int (v := 7) (by decide +kernel) ?_
  refine k_iald (v := (f0 7)) hx hb hK hP 1 0 7 rfl rfl rfl (Nat.le_of_ble_eq_true rfl) (Nat.le_of_ble_eq_true rfl) rfl dX7_twoBytes_16 ?_
  have f_16_3 : iR (f0 7) 0 255 := hf0 _
  refine lv_ior hx hb dX7_twoBytes_17 ?_
  refine lv_topi (fun y_17 ey_17 => ?_)
  have f_17_4 : iR y_17 0 65535 := iR_or 16 ey_17 f_8_2 f_16_3 (by decide +kernel)
  exact k_ri B hP hD hS dX7_twoBytes_18 () [0, 1] rfl rfl rfl (Nat.le_of_ble_eq_true rfl) (Nat.le_of_ble_eq_true rfl) ⟨(show iR y_17 0 65535 from f_17_4), (show y_17 = (w2b f0 6) from (by rw [ey_17, ey_8]; rfl))⟩
set_option maxHeartbeats 8000000 in
set_option maxRecDepth 100000 in
theorem s_X7_canBe_v1 (l : Launch) (dC : Nat → ClassId) (dI : Nat → Nat → Nat) (cI cJ cZ cM : ClassId) (h : Nat) (r : Nat → Nat) (i : Nat → Int32) (j : Nat → Int64) (x1 : Int32) (f0 : Nat → Int32) (f14 : Nat → Int32) (f30 : Nat → Int32) (hI : mR i) (hf0 : aR f0 0 255) (hf14 : aR f14 0 10) (hf30 : aR f30 0 999) : k_Mi l yX7_canBe wsX7_canBe ({ frames := 2, cells := 0, slots := 0, locals := 61 }) (dC, dI) vwCl (tyy cI cJ cZ cM) [(h, .inr (7, oM r i j)), ((r 0), .inl (cI, 1800, .inl f0)), ((r 14), .inl (cI, 2, .inl f14)), ((r 30), .inl (cI, 2, .inl f30))] [.ref h, .int x1] 0 0 (fun (u9 : Unit) => [(h, .inr (7, oM r i j)), ((r 0), .inl (cI, 1800, .inl f0)), ((r 14), .inl (cI, 2, .inl f14)), ((r 30), .inl (cI, 2, .inl f30))]) (fun (r9 : Int32) (u9 : Unit) => (iR r9 0 1) ∧ ((r9 = 0) ∨ (((w2b f0 4) ≤ (f30 (i 13).toNatClampNeg)) ∧ ((w2b f0 6) ≤ 1023)))) := by
  refine fun sz => k_enter (cc := cX7_canBe) (maxL := 4) (ret := some (.boolean)) (Qc := fun A => va_Qi (fun (r9 : Int32) (u9 : Unit) => (iR r9 0 1) ∧ ((r9 = 0) ∨ (((w2b f0 4) ≤ (f30 (i 13).toNatClampNeg)) ∧ ((w2b f0 6) ≤ 1023)))) (fun u => k_B (dC, dI) vwCl (tyy cI cJ cZ cM) A ((fun (u9 : Unit) => [(h, .inr (7, oM r i j)), ((r 0), .inl (cI, 1800, .inl f0)), ((r 14), .inl (cI, 2, .inl f14)), ((r 30), .inl (cI, 2, .inl f30))]) u)) A) sz (by decide +kernel) rfl (Nat.le_of_ble_eq_true rfl) (fun p e s m args below meth c A ls H locs B hP hD hS hl => ?_)
  obtain ⟨hx, hb, hml, hown, hts, hr, hlk, hnm, hK, hA, hN, hC⟩ := id B
  have hown : s.vm.findClass RX7 = some m.cls := hown
  have hl : lv_has ls 4 [(0, .ref h), (1, .int x1)] := hl
  have w_0 : (Cond.fieldLink RX7 102 "WishSeaModel" "bearing" "[I").before args s = true := hts _ (List.mem_of_getElem? (i := 1) rfl)
  have w_1 : (Cond.fieldLink RX7 51 "WishSeaModel" "bank" "I").before args s = true := hts _ (List.mem_of_getElem? (i := 2) rfl)
  have w_2 : (Cond.fieldLink RX7 54 "WishSeaModel" "things" "[I").before args s = true := hts _ (List.mem_of_getElem? (i := 3) rfl)
  have w_3 : (Cond.fieldLink RX7 7 "WishSeaModel" "tape" "[I").before args s = true := hts _ (List.mem_of_getElem? (i := 4) rfl)
  have hinX7 : ∀ w ∈ u_ws RX7 TX7 92, w ∈ wsX7_canBe := fun _ h => List.mem_cons_of_mem _ (List.mem_append_right _ h)
  refine lv_iload_n hx hb dX7_canBe_0 rfl (lv_at hl 1 rfl) ?_
  refine lv_bipush (v := 9) hx hb dX7_canBe_1 (by decide +kernel) ?_
  have J_65 : ∀   (H : Heap) (locs : List Loc) (ls : Array Slot), va_P (dC, dI) vwCl [(h, .inr (7, oM r i j)), ((r 0), .inl (cI, 1800, .inl f0)), ((r 14), .inl (cI, 2, .inl f14)), ((r 30), .inl (cI, 2, .inl f30))] H → va_D A [(h, .inr (7, oM r i j)), ((r 0), .inl (cI, 1800, .inl f0)), ((r 14), .inl (cI, 2, .inl f14)), ((r 30), .inl (cI, 2, .inl f30))] → va_S A s.heap H locs → lv_has ls 4 [] → W p l e ({ frames := 2, cells := 0, slots := 0, locals := 61 }) s m args below meth c H locs 0 0 (MQ below (va_Qi (fun (r9 : Int32) (u9 : Unit) => (iR r9 0 1) ∧ ((r9 = 0) ∨ (((w2b f0 4) ≤ (f30 (i 13).toNatClampNeg)) ∧ ((w2b f0 6) ≤ 1023)))) (fun u => k_B (dC, dI) vwCl (tyy cI cJ cZ cM) A ((fun (u9 : Unit) => [(h, .inr (7, oM r i j)), ((r 0), .inl (cI, 1800, .inl f0)), ((r 14), .inl (cI, 2, .inl f14)), ((r 30), .inl (cI, 2, .inl f30))]) u)) A) args s 0 0 A) (F0 m 65 ls []) := by
    intro   H locs ls hP hD hS hl
    refine lv_iconst (v := 0) hx hb dX7_canBe_65 (by decide +kernel) ?_
    exact k_ri B hP hD hS dX7_canBe_66 () [0, 1, 2, 3] rfl rfl rfl (Nat.le_of_ble_eq_true rfl) (Nat.le_of_ble_eq_true rfl) ⟨(show iR 0 0 1 from (iR_c (n := 0) (a := 0) (b := 1) (by decide +kernel) (by decide +kernel))), (show (0 = 0) ∨ (((w2b f0 4) ≤ (f30 (i 13).toNatClampNeg)) ∧ ((w2b f0 6) ≤ 1023)) from (Or.inl rfl))⟩
  refine lv_icmp_ne (tgt := 65) hx hb dX7_canBe_3 (by decide) (fun c_3 => ?_) (fun c_3 => ?_)
  · have c_3 : ¬ x1 = 9 := c_3
    exact J_65   H locs ls hP hD hS (lv_sub hl [] rfl)
  · have c_3 : x1 = 9 := c_3
    have f_6_1 : iR x1 9 9 := iR_eqL c_3 (iR_top _) (iR_c (n := 9) (a := 9) (b := 9) (by decide +kernel) (by decide +kernel)) (by decide +kernel)
    refine lv_aload_n hx hb dX7_canBe_6 rfl (lv_at hl 0 rfl) ?_
    refine lv_iconst (v := 0) hx hb dX7_canBe_7 (by decide +kernel) ?_
    refine k_ci (wc := [(h, .inr (7, oM r i j)), ((r 0), .inl (cI, 1800, .inl f0))]) (wr := [((r 14), .inl (cI, 2, .inl f14)), ((r 30), .inl (cI, 2, .inl f30))]) (fun hPc hDc hFc => va_runV (As := [.int 0]) (rest := []) ⟨hx, hb, hml, hown, hts⟩ (s_X7_twoBytes_v4 l dC dI cI cJ cZ cM h r i j f0 hI hf0 H.size) (cwV 1 hts gX7_canBe_X7_twoBytes rfl rfl rfl (by decide +kernel) ⟨(Nat.le_of_ble_eq_true rfl), (Nat.le_of_ble_eq_true rfl)⟩) (k_pV hPc hDc hK hN hC hS hFc hP (q0 := 0) (ci := 7) rfl rfl) rfl rfl hl.1 rfl (lv_room (Nat.le_of_ble_eq_true rfl)) dX7_canBe_8 ⟨(Nat.le_of_ble_eq_true rfl), (Nat.le_of_ble_eq_true rfl)⟩) hP hD hS hA [0, 1] [2, 3] rfl rfl rfl rfl (by decide) (fun _ => rfl) 0 0 rfl rfl (fun r_8 u_8 H locs hw hP hD hS => ?_)
    obtain ⟨g_8_0, g_8_1⟩ := hw
    obtain rfl : r_8 = (w2b f0 0) := g_8_1
    have hP : va_P (dC, dI) vwCl [((r 14), .inl (cI, 2, .inl f14)), ((r 30), .inl (cI, 2, .inl f30)), (h, .inr (7, oM r i j)), ((r 0), .inl (cI, 1800, .inl f0))] H := hP
    have hD : va_D A [((r 14), .inl (cI, 2, .inl f14)), ((r 30), .inl (cI, 2, .inl f30)), (h, .inr (7, oM r i j)), ((r 0), .inl (cI, 1800, .inl f0))] := hD
    refine lv_sipush (v := 9999) hx hb dX7_canBe_11 (by decide +kernel) ?_
    refine lv_icmp_gt (tgt := 65) hx hb dX7_canBe_14 (by decide) (fun c_14 => ?_) (fun c_14 => ?_)
    · have c_14 : 9999 < (w2b f0 0) := c_14
      have f_65_2 : iR (w2b f0 0) 10000 65535 := iR_ltR c_14 (iR_c (n := 9999) (a := 9999) (b := 9999) (by decide +kernel) (by decide +kernel)) g_8_0 (by decide +kernel)
      exact J_65   H locs ls (hP.sub [2, 3, 0, 1] rfl) (hD.sub [2, 3, 0, 1] (by decide +kernel) rfl) hS (lv_sub hl [] rfl)
    · have c_14 : (w2b f0 0) ≤ 9999 := i_nlt c_14
      have f_17_2 : iR (w2b f0 0) 0 9999 := iR_leL c_14 g_8_0 (iR_c (n := 9999) (a := 9999) (b := 9999) (by decide +kernel) (by decide +kernel)) (by decide +kernel)
      refine lv_aload_n hx hb dX7_canBe_17 rfl (lv_at hl 0 rfl) ?_
      refine lv_iconst (v := 2) hx hb dX7_canBe_18 (by decide +kernel) ?_
      refine k_ci (wc := [(h, .inr (7, oM r i j)), ((r 0), .inl (cI, 1800, .inl f0))]) (wr := [((r 14), .inl (cI, 2, .inl f14)), ((r 30), .inl (cI, 2, .inl f30))]) (fun hPc hDc hFc => va_runV (As := [.int 2]) (rest := []) ⟨hx, hb, hml, hown, hts⟩ (s_X7_twoBytes_v5 l dC dI cI cJ cZ cM h r i j f0 hI hf0 H.size) (cwV 1 hts gX7_canBe_X7_twoBytes rfl rfl rfl (by decide +kernel) ⟨(Nat.le_of_ble_eq_true rfl), (Nat.le_of_ble_eq_true rfl)⟩) (k_pV hPc hDc hK hN hC hS hFc hP (q0 := 2) (ci := 7) rfl rfl) rfl rfl hl.1 rfl (lv_room (Nat.le_of_ble_eq_true rfl)) dX7_canBe_19 ⟨(Nat.le_of_ble_eq_true rfl), (Nat.le_of_ble_eq_true rfl)⟩) hP hD hS hA [2, 3] [0, 1] rfl rfl rfl rfl (by decide) (fun _ => rfl) 0 0 rfl rfl (fun r_19 u_19 H locs hw hP hD hS => ?_)
      obtain ⟨g_19_0, g_19_1⟩ := hw
      obtain rfl : r_19 = (w2b f0 2) := g_19_1
      have hP : va_P (dC, dI) vwCl [((r 14), .inl (cI, 2, .inl f14)), ((r 30), .inl (cI, 2, .inl f30)), (h, .inr (7, oM r i j)), ((r 0), .inl (cI, 1800, .inl f0))] H := hP
      have hD : va_D A [((r 14), .inl (cI, 2, .inl f14)), ((r 30), .inl (cI, 2, .inl f30)), (h, .inr (7, oM r i j)), ((r 0), .inl (cI, 1800, .inl f0))] := hD
      refine lv_sipush (v := 9999) hx hb dX7_canBe_22 (by decide +kernel) ?_
      refine lv_icmp_gt (tgt := 65) hx hb dX7_canBe_25 (by decide) (fun c_25 => ?_) (fun c_25 => ?_)
      · have c_25 : 9999 < (w2b f0 2) := c_25
        have f_65_3 : iR (w2b f0 2) 10000 65535 := iR_ltR c_25 (iR_c (n := 9999) (a := 9999) (b := 9999) (by decide +kernel) (by decide +kernel)) g_19_0 (by decide +kernel)
        exact J_65   H locs ls (hP.sub [2, 3, 0, 1] rfl) (hD.sub [2, 3, 0, 1] (by decide +kernel) rfl) hS (lv_sub hl [] rfl)
      · have c_25 : (w2b f0 2) ≤ 9999 := i_nlt c_25
        have f_28_3 : iR (w2b f0 2) 0 9999 := iR_leL c_25 g_19_0 (iR_c (n := 9999) (a := 9999) (b := 9999) (by decide +kernel) (by decide +kernel)) (by decide +kernel)
        refine lv_aload_n hx hb dX7_canBe_28 rfl (lv_at hl 0 rfl) ?_
        refine lv_iconst (v := 4) hx hb dX7_canBe_29 (by decide +kernel) ?_
        refine k_ci (wc := [(h, .inr (7, oM r i j)), ((r 0), .inl (cI, 1800, .inl f0))]) (wr := [((r 14), .inl (cI, 2, .inl f14)), ((r 30), .inl (cI, 2, .inl f30))]) (fun hPc hDc hFc => va_runV (As := [.int 4]) (rest := []) ⟨hx, hb, hml, hown, hts⟩ (s_X7_twoBytes_v6 l dC dI cI cJ cZ cM h r i j f0 hI hf0 H.size) (cwV 1 hts gX7_canBe_X7_twoBytes rfl rfl rfl (by decide +kernel) ⟨(Nat.le_of_ble_eq_true rfl), (Nat.le_of_ble_eq_true rfl)⟩) (k_pV hPc hDc hK hN hC hS hFc hP (q0 := 2) (ci := 7) rfl rfl) rfl rfl hl.1 rfl (lv_room (Nat.le_of_ble_eq_true rfl)) dX7_canBe_30 ⟨(Nat.le_of_ble_eq_true rfl), (Nat.le_of_ble_eq_true rfl)⟩) hP hD hS hA [2, 3] [0, 1] rfl rfl rfl rfl (by decide) (fun _ => rfl) 0 0 rfl rfl (fun r_30 u_30 H locs hw hP hD hS => ?_)
        obtain ⟨g_30_0, g_30_1⟩ := hw
        obtain rfl : r_30 = (w2b f0 4) := g_30_1
        have hP : va_P (dC, dI) vwCl [((r 14), .inl (cI, 2, .inl f14)), ((r 30), .inl (cI, 2, .inl f30)), (h, .inr (7, oM r i j)), ((r 0), .inl (cI, 1800, .inl f0))] H := hP
        have hD : va_D A [((r 14), .inl (cI, 2, .inl f14)), ((r 30), .inl (cI, 2, .inl f30)), (h, .inr (7, oM r i j)), ((r 0), .inl (cI, 1800, .inl f0))] := hD
        refine lv_aload_n hx hb dX7_canBe_33 rfl (lv_at hl 0 rfl) ?_
        refine k_get (D := (dC, dI)) (ci := 7) (v := .ref (r 30)) (C := RX7) (T := TX7) (N := 92) hx hb hts hinX7 hown hK hP 2 rfl rfl 30 (by decide) w_0 rfl rfl dX7_canBe_34 ?_
        refine lv_aload_n hx hb dX7_canBe_37 rfl (lv_at hl 0 rfl) ?_
        have f_38_4 : iR (i 13) 0 1 := hI 13
        refine k_get (D := (dC, dI)) (ci := 7) (v := .int (i 13)) (C := RX7) (T := TX7) (N := 92) hx hb hts hinX7 hown hK hP 2 rfl rfl 13 (by decide) w_1 rfl rfl dX7_canBe_38 ?_
        refine va_iald hx hb hK hP 1 0 rfl rfl (iR_vp f_38_4 (by decide +kernel)) dX7_canBe_41 ?_
        have f_41_5 : iR (f30 (i 13).toNatClampNeg) 0 999 := hf30 _
        refine lv_icmp_gt (tgt := 65) hx hb dX7_canBe_42 (by decide) (fun c_42 => ?_) (fun c_42 => ?_)
        · have c_42 : (f30 (i 13).toNatClampNeg) < (w2b f0 4) := c_42
          have f_65_6 : iR (w2b f0 4) 1 65535 := iR_ltR c_42 f_41_5 g_30_0 (by decide +kernel)
          exact J_65   H locs ls (hP.sub [2, 3, 0, 1] rfl) (hD.sub [2, 3, 0, 1] (by decide +kernel) rfl) hS (lv_sub hl [] rfl)
        · have c_42 : (w2b f0 4) ≤ (f30 (i 13).toNatClampNeg) := i_nlt c_42
          have f_45_6 : iR (w2b f0 4) 0 999 := iR_leL c_42 g_30_0 f_41_5 (by decide +kernel)
          refine lv_aload_n hx hb dX7_canBe_45 rfl (lv_at hl 0 rfl) ?_
          refine lv_bipush (v := 6) hx hb dX7_canBe_46 (by decide +kernel) ?_
          refine k_ci (wc := [(h, .inr (7, oM r i j)), ((r 0), .inl (cI, 1800, .inl f0))]) (wr := [((r 14), .inl (cI, 2, .inl f14)), ((r 30), .inl (cI, 2, .inl f30))]) (fun hPc hDc hFc => va_runV (As := [.int 6]) (rest := []) ⟨hx, hb, hml, hown, hts⟩ (s_X7_twoBytes_v7 l dC dI cI cJ cZ cM h r i j f0 hI hf0 H.size) (cwV 1 hts gX7_canBe_X7_twoBytes rfl rfl rfl (by decide +kernel) ⟨(Nat.le_of_ble_eq_true rfl), (Nat.le_of_ble_eq_true rfl)⟩) (k_pV hPc hDc hK hN hC hS hFc hP (q0 := 2) (ci := 7) rfl rfl) rfl rfl hl.1 rfl (lv_room (Nat.le_of_ble_eq_true rfl)) dX7_canBe_48 ⟨(Nat.le_of_ble_eq_true rfl), (Nat.le_of_ble_eq_true rfl)⟩) hP hD hS hA [2, 3] [0, 1] rfl rfl rfl rfl (by decide) (fun _ => rfl) 0 0 rfl rfl (fun r_48 u_48 H locs hw hP hD hS => ?_)
          obtain ⟨g_48_0, g_48_1⟩ := hw
          obtain rfl : r_48 = (w2b f0 6) := g_48_1
          have hP : va_P (dC, dI) vwCl [((r 14), .inl (cI, 2, .inl f14)), ((r 30), .inl (cI, 2, .inl f30)), (h, .inr (7, oM r i j)), ((r 0), .inl (cI, 1800, .inl f0))] H := hP
          have hD : va_D A [((r 14), .inl (cI, 2, .inl f14)), ((r 30), .inl (cI, 2, .inl f30)), (h, .inr (7, oM r i j)), ((r 0), .inl (cI, 1800, .inl f0))] := hD
          refine lv_iconst (v := 1) hx hb dX7_canBe_51 (by decide +kernel) ?_
          refine lv_aload_n hx hb dX7_canBe_52 rfl (lv_at hl 0 rfl) ?_
          refine k_get (D := (dC, dI)) (ci := 7) (v := .ref (r 14)) (C := RX7) (T := TX7) (N := 92) hx hb hts hinX7 hown hK hP 2 rfl rfl 14 (by decide) w_2 rfl rfl dX7_canBe_53 ?_
          refine lv_aload_n hx hb dX7_canBe_56 rfl (lv_at hl 0 rfl) ?_
          refine k_get (D := (dC, dI)) (ci := 7) (v := .int (i 13)) (C := RX7) (T := TX7) (N := 92) hx hb hts hinX7 hown hK hP 2 rfl rfl 13 (by decide) w_1 rfl rfl dX7_canBe_57 ?_
          refine va_iald hx hb hK hP 0 0 rfl rfl (iR_vp f_38_4 (by decide +kernel)) dX7_canBe_60 ?_
          have f_60_7 : iR (f14 (i 13).toNatClampNeg) 0 10 := hf14 _
          refine lv_ishl hx hb dX7_canBe_61 ?_
          refine lv_topi (fun y_61 ey_61 => ?_)
          have f_61_8 : iR y_61 1 1024 := iR_shl 10 ey_61 (iR_c (n := 1) (a := 1) (b := 1) (by decide +kernel) (by decide +kernel)) f_60_7 (by decide +kernel)
          refine lv_icmp_lt (tgt := 67) hx hb dX7_canBe_62 (by decide) (fun c_62 => ?_) (fun c_62 => ?_)
          · have c_62 : (w2b f0 6) < y_61 := c_62
            have f_67_9 : iR (w2b f0 6) 0 1023 := iR_ltL c_62 g_48_0 f_61_8 (by decide +kernel)
            refine lv_bipush (v := 97) hx hb dX7_canBe_67 (by decide +kernel) ?_
            refine lv_istore_n (lv' := [(2, .int 97), (0, .ref h), (1, .int x1)]) hx hb dX7_canBe_69 rfl hl (by decide) rfl (fun ls hl => ?_)
            refine lv_iconst (v := 0) hx hb dX7_canBe_70 (by decide +kernel) ?_
            have J_72 : ∀ (n_72 : Nat) (j72_L2 : Int32) (j72_L3 : Int32) (hj72_L2 : iR j72_L2 0 250) (hj72_L3 : iR j72_L3 0 8) (hm_72 : (8 - j72_L3.toInt).toNat < n_72) (H : Heap) (locs : List Loc) (ls : Array Slot), va_P (dC, dI) vwCl [(h, .inr (7, oM r i j)), ((r 0), .inl (cI, 1800, .inl f0)), ((r 14), .inl (cI, 2, .inl f14)), ((r 30), .inl (cI, 2, .inl f30))] H → va_D A [(h, .inr (7, oM r i j)), ((r 0), .inl (cI, 1800, .inl f0)), ((r 14), .inl (cI, 2, .inl f14)), ((r 30), .inl (cI, 2, .inl f30))] → va_S A s.heap H locs → lv_has ls 4 [(0, .ref h), (1, .int x1), (2, .int j72_L2), (3, .int j72_L3)] → W p l e ({ frames := 2, cells := 0, slots := 0, locals := 61 }) s m args below meth c H locs 0 0 (MQ below (va_Qi (fun (r9 : Int32) (u9 : Unit) => (iR r9 0 1) ∧ ((r9 = 0) ∨ (((w2b f0 4) ≤ (f30 (i 13).toNatClampNeg)) ∧ ((w2b f0 6) ≤ 1023)))) (fun u => k_B (dC, dI) vwCl (tyy cI cJ cZ cM) A ((fun (u9 : Unit) => [(h, .inr (7, oM r i j)), ((r 0), .inl (cI, 1800, .inl f0)), ((r 14), .inl (cI, 2, .inl f14)), ((r 30), .inl (cI, 2, .inl f30))]) u)) A) args s 0 0 A) (F0 m 72 ls []) := by
              intro n_72
              induction n_72 with
              | zero => intro j72_L2 j72_L3 hj72_L2 hj72_L3 hm_72; exact absurd hm_72 (Nat.not_lt_zero _)
              | succ n_72 ih_72 =>
                intro j72_L2 j72_L3 hj72_L2 hj72_L3 hm_72 H locs ls hP hD hS hl
                refine lv_iload_n hx hb dX7_canBe_72 rfl (lv_at hl 3 rfl) ?_
                refine lv_iload_n hx hb dX7_canBe_73 rfl (lv_at hl 1 rfl) ?_
                refine lv_iconst (v := 1) hx hb dX7_canBe_74 (by decide +kernel) ?_
                refine lv_isub hx hb dX7_canBe_75 ?_
                refine lv_topi (fun y_75 ey_75 => ?_)
                have f_75_1 : iR y_75 8 8 := iR_sub ey_75 f_6_1 (iR_c (n := 1) (a := 1) (b := 1) (by decide +kernel) (by decide +kernel)) (by decide +kernel)
                refine lv_icmp_ge (tgt := 100) hx hb dX7_canBe_76 (by decide) (fun c_76 => ?_) (fun c_76 => ?_)
                · have c_76 : y_75 ≤ j72_L3 := c_76
                  have f_100_2 : iR j72_L3 8 8 := iR_leR c_76 f_75_1 hj72_L3 (by decide +kernel)
                  refine lv_aload_n hx hb dX7_canBe_100 rfl (lv_at hl 0 rfl) ?_
                  refine k_get (D := (dC, dI)) (ci := 7) (v := .ref (r 0)) (C := RX7) (T := TX7) (N := 92) hx hb hts hinX7 hown hK hP 0 rfl rfl 0 (by decide) w_3 rfl rfl dX7_canBe_101 ?_
                  refine lv_iload_n hx hb dX7_canBe_104 rfl (lv_at hl 1 rfl) ?_
                  refine lv_iconst (v := 1) hx hb dX7_canBe_105 (by decide +kernel) ?_
                  refine lv_isub hx hb dX7_canBe_106 ?_
                  refine lv_topi (fun y_106 ey_106 => ?_)
                  have f_106_3 : iR y_106 8 8 := iR_sub ey_106 f_6_1 (iR_c (n := 1) (a := 1) (b := 1) (by decide +kernel) (by decide +kernel)) (by decide +kernel)
                  refine va_iald hx hb hK hP 1 0 rfl rfl (iR_vp f_106_3 (by decide +kernel)) dX7_canBe_107 ?_
                  have f_107_4 : iR (f0 y_106.toNatClampNeg) 0 255 := hf0 _
                  refine lv_iload_n hx hb dX7_canBe_108 rfl (lv_at hl 2 rfl) ?_
                  refine lv_icmp_ne (tgt := 116) hx hb dX7_canBe_109 (by decide) (fun c_109 => ?_) (fun c_109 => ?_)
                  · have c_109 : ¬ (f0 y_106.toNatClampNeg) = j72_L2 := c_109
                    refine lv_iconst (v := 0) hx hb dX7_canBe_116 (by decide +kernel) ?_
                    exact k_ri B hP hD hS dX7_canBe_117 () [0, 1, 2, 3] rfl rfl rfl (Nat.le_of_ble_eq_true rfl) (Nat.le_of_ble_eq_true rfl) ⟨(show iR 0 0 1 from (iR_c (n := 0) (a := 0) (b := 1) (by decide +kernel) (by decide +kernel))), (show (0 = 0) ∨ (((w2b f0 4) ≤ (f30 (i 13).toNatClampNeg)) ∧ ((w2b f0 6) ≤ 1023)) from (Or.inl rfl))⟩
                  · have c_109 : (f0 y_106.toNatClampNeg) = j72_L2 := c_109
                    have f_112_5 : iR (f0 y_106.toNatClampNeg) 0 250 := iR_eqL c_109 f_107_4 hj72_L2 (by decide +kernel)
                    refine lv_iconst (v := 1) hx hb dX7_canBe_112 (by decide +kernel) ?_
                    refine lv_goto (tgt := 117) hx hb dX7_canBe_113 (by decide) ?_
                    exact k_ri B hP hD hS dX7_canBe_117 () [0, 1, 2, 3] rfl rfl rfl (Nat.le_of_ble_eq_true rfl) (Nat.le_of_ble_eq_true rfl) ⟨(show iR 1 0 1 from (iR_c (n := 1) (a := 0) (b := 1) (by decide +kernel) (by decide +kernel))), (show (1 = 0) ∨ (((w2b f0 4) ≤ (f30 (i 13).toNatClampNeg)) ∧ ((w2b f0 6) ≤ 1023)) from (Or.inr ⟨c_42, (i_lef f_67_9 (iR_c (n := 1023) (a := 1023) (b := 1023) (by decide +kernel) (by decide +kernel)) (by decide +kernel))⟩))⟩
                · have c_76 : j72_L3 < y_75 := i_nle c_76
                  have f_79_2 : iR j72_L3 0 7 := iR_ltL c_76 hj72_L3 f_75_1 (by decide +kernel)
                  refine lv_iconst (v := 5) hx hb dX7_canBe_79 (by decide +kernel) ?_
                  refine lv_iload_n hx hb dX7_canBe_80 rfl (lv_at hl 2 rfl) ?_
                  refine lv_imul hx hb dX7_canBe_81 ?_
                  refine lv_topi (fun y_81 ey_81 => ?_)
                  have f_81_3 : iR y_81 0 1250 := iR_mul ey_81 (iR_c (n := 5) (a := 5) (b := 5) (by decide +kernel) (by decide +kernel)) hj72_L2 (by decide +kernel)
                  refine lv_aload_n hx hb dX7_canBe_82 rfl (lv_at hl 0 rfl) ?_
                  refine k_get (D := (dC, dI)) (ci := 7) (v := .ref (r 0)) (C := RX7) (T := TX7) (N := 92) hx hb hts hinX7 hown hK hP 0 rfl rfl 0 (by decide) w_3 rfl rfl dX7_canBe_83 ?_
                  refine lv_iload_n hx hb dX7_canBe_86 rfl (lv_at hl 3 rfl) ?_
                  refine va_iald hx hb hK hP 1 0 rfl rfl (iR_vp f_79_2 (by decide +kernel)) dX7_canBe_87 ?_
                  have f_87_4 : iR (f0 j72_L3.toNatClampNeg) 0 255 := hf0 _
                  refine lv_iadd hx hb dX7_canBe_88 ?_
                  refine lv_topi (fun y_88 ey_88 => ?_)
                  have f_88_5 : iR y_88 0 1505 := iR_add ey_88 f_81_3 f_87_4 (by decide +kernel)
                  refine lv_sipush (v := 251) hx hb dX7_canBe_89 (by decide +kernel) ?_
                  refine lv_irem hx hb dX7_canBe_92 (i_nz (iR_c (n := 251) (a := 251) (b := 251) (by decide +kernel) (by decide +kernel)) (by decide +kernel)) ?_
                  refine lv_topi (fun y_92 ey_92 => ?_)
                  have f_92_6 : iR y_92 0 250 := iR_rem ey_92 f_88_5 (iR_c (n := 251) (a := 251) (b := 251) (by decide +kernel) (by decide +kernel)) (by decide +kernel)
                  refine lv_istore_n (lv' := [(2, .int y_92), (0, .ref h), (1, .int x1), (3, .int j72_L3)]) hx hb dX7_canBe_93 rfl hl (by decide) rfl (fun ls hl => ?_)
                  obtain ⟨y_94, ey_94⟩ : ∃ y : Int32, y = j72_L3 + 1 := ⟨_, rfl⟩
                  refine lv_iinc (v := y_94) (lv' := [(3, .int y_94), (2, .int y_92), (0, .ref h), (1, .int x1)]) hx hb dX7_canBe_94 hl (k := 3) rfl ey_94.symm (by decide) rfl (fun ls hl => ?_)
                  have f_94_7 : iR y_94 1 8 := iR_add ey_94 f_79_2 (iR_c (n := 1) (a := 1) (b := 1) (by decide +kernel) (by decide +kernel)) (by decide +kernel)
                  refine lv_goto (tgt := 72) hx hb dX7_canBe_97 (by decide) ?_
                  exact ih_72 y_92 y_94 f_92_6 (iR_w f_94_7 (by decide +kernel)) (m_up (B := 8) hm_72 ey_94 f_79_2 (by decide +kernel)) H locs ls hP hD hS (lv_sub hl [2, 3, 1, 0] rfl)
            refine lv_istore_n (lv' := [(3, .int 0), (2, .int 97), (0, .ref h), (1, .int x1)]) hx hb dX7_canBe_71 rfl hl (by decide) rfl (fun ls hl => ?_)
            exact J_72 _ 97 0 (iR_c (n := 97) (a := 0) (b := 250) (by decide +kernel) (by decide +kernel)) (iR_c (n := 0) (a := 0) (b := 8) (by decide +kernel) (by decide +kernel)) (Nat.lt_succ_self _) H locs ls (hP.sub [2, 3, 0, 1] rfl) (hD.sub [2, 3, 0, 1] (by decide +kernel) rfl) hS (lv_sub hl [2, 3, 1, 0] rfl)
          · have c_62 : y_61 ≤ (w2b f0 6) := i_nlt c_62
            have f_65_9 : iR (w2b f0 6) 1 65535 := iR_leR c_62 f_61_8 g_48_0 (by decide +kernel)
            exact J_65   H locs ls (hP.sub [2, 3, 0, 1] rfl) (hD.sub [2, 3, 0, 1] (by decide +kernel) rfl) hS (lv_sub hl [] rfl)
set_option maxHeartbeats 8000000 in
set_option maxRecDepth 100000 in
theorem s_X7_refuses_v6 (l : Launch) (dC : Nat → ClassId) (dI : Nat → Nat → Nat) (cI cJ cZ cM : ClassId) (h : Nat) (r : Nat → Nat) (i : Nat → Int32) (j : Nat → Int64) (x1 : Int32) (f48 : Nat → Int32) (hx1 : iR x1 0 5) (hI : mR i) : k_Mi l yX7_refuses wsX7_refuses ({ frames := 1, cells := 0, slots := 0, locals := 40 }) (dC, dI) vwCl (tyy cI cJ cZ cM) [(h, .inr (7, oM r i j)), ((r 48), .inl (cI, 6, .inl f48))] [.ref h, .int x1] 0 0 (fun (u9 : SU) => [(h, .inr (7, oM r i j)), ((r 48), .inl (cI, 6, .inl (u9.2.2.1 0)))]) (fun (r9 : Int32) (u9 : SU) => (r9 = (-1))) := by
  refine fun sz => k_enter (cc := cX7_refuses) (maxL := 2) (ret := some (.int)) (Qc := fun A => va_Qi (fun (r9 : Int32) (u9 : SU) => (r9 = (-1))) (fun u => k_B (dC, dI) vwCl (tyy cI cJ cZ cM) A ((fun (u9 : SU) => [(h, .inr (7, oM r i j)), ((r 48), .inl (cI, 6, .inl (u9.2.2.1 0)))]) u)) A) sz (by decide +kernel) rfl (Nat.le_of_ble_eq_true rfl) (fun p e s m args below meth c A ls H locs B hP hD hS hl => ?_)
  obtain ⟨hx, hb, hml, hown, hts, hr, hlk, hnm, hK, hA, hN, hC⟩ := id B
  have hown : s.vm.findClass RX7 = some m.cls := hown
  have hl : lv_has ls 2 [(0, .ref h), (1, .int x1)] := hl
  have w_0 : (Cond.fieldLink RX7 159 "WishSeaModel" "refused" "[I").before args s = true := hts _ (List.mem_of_getElem? (i := 1) rfl)
  have hinX7 : ∀ w ∈ u_ws RX7 TX7 92, w ∈ wsX7_refuses := fun _ h => List.mem_cons_of_mem _ (List.mem_append_right _ h)
  refine lv_aload_n hx hb dX7_refuses_0 rfl (lv_at hl 0 rfl) ?_
  refine k_get (D := (dC, dI)) (ci := 7) (v := .ref (r 48)) (C := RX7) (T := TX7) (N := 92) hx hb hts hinX7 hown hK hP 0 rfl rfl 48 (by decide) w_0 rfl rfl dX7_refuses_1 ?_
  refine lv_iload_n hx hb dX7_refuses_4 rfl (lv_at hl 1 rfl) ?_
  refine lv_dup2_11 hx hb dX7_refuses_5 rfl rfl ?_
  refine va_iald hx hb hK hP 1 0 rfl rfl (iR_vp hx1 (by decide +kernel)) dX7_refuses_6 ?_
  refine lv_iconst (v := 1) hx hb dX7_refuses_7 (by decide +kernel) ?_
  refine lv_iadd hx hb dX7_refuses_8 ?_
  refine lv_topi (fun y_8 ey_8 => ?_)
  refine s_iast (g := (upd f48 x1.toNatClampNeg y_8)) (ws' := [(h, .inr (7, oM r i j)), ((r 48), .inl (cI, 6, .inl (upd f48 x1.toNatClampNeg y_8)))]) hx hb hK hP hD hS 1 0 rfl rfl (iR_vp hx1 (by decide +kernel)) rfl rfl dX7_refuses_9 (fun H locs hP hD hS => ?_)
  refine lv_iconst (v := (-1)) hx hb dX7_refuses_10 (by decide +kernel) ?_
  exact k_ri B hP hD hS dX7_refuses_11 ((fun _ => 0), (fun _ => 0), (fun k9 => match k9 with | 0 => (upd f48 x1.toNatClampNeg y_8) | _ => (fun _ => 0)), (fun _ => (fun _ => 0)), (fun _ => 0)) [0, 1] rfl rfl rfl (Nat.le_of_ble_eq_true rfl) (Nat.le_of_ble_eq_true rfl) rfl
set_option maxHeartbeats 8000000 in
set_option maxRecDepth 100000 in
theorem s_X7_on_v0 (l : Launch) (dC : Nat → ClassId) (dI : Nat → Nat → Nat) (cI cJ cZ cM : ClassId) (h : Nat) (r : Nat → Nat) (i : Nat → Int32) (j : Nat → Int64) (f0 : Nat → Int32) (f14 : Nat → Int32) (f30 : Nat → Int32) (f48 : Nat → Int32) (f49 : Nat → Int32) (f50 : Nat → Int32) (f51 : Nat → Int32) (f52 : Nat → Int32) (f53 : Nat → Int32) (hI : mR i) (hf0 : aR f0 0 255) (hf14 : aR f14 0 10) (hf30 : aR f30 0 999) (hf49 : aR f49 0 1023) (hf50 : aR f50 0 999) (hf53 : aR f53 0 50) : k_Mi l yX7_on wsX7_on ({ frames := 3, cells := 0, slots := 0, locals := 84 }) (dC, dI) vwCl (tyy cI cJ cZ cM) [(h, .inr (7, oM r i j)), ((r 0), .inl (cI, 1800, .inl f0)), ((r 14), .inl (cI, 2, .inl f14)), ((r 30), .inl (cI, 2, .inl f30)), ((r 48), .inl (cI, 6, .inl f48)), ((r 49), .inl (cI, 22, .inl f49)), ((r 50), .inl (cI, 22, .inl f50)), ((r 51), .inl (cI, 22, .inl f51)), ((r 52), .inl (cI, 22, .inl f52)), ((r 53), .inl (cI, 22, .inl f53))] [.ref h] 0 0 (fun (u9 : SU) => [(h, .inr (7, oM r (upd (upd i 1 0) 59 (u9.1 0)) j)), ((r 0), .inl (cI, 1800, .inl f0)), ((r 14), .inl (cI, 2, .inl f14)), ((r 30), .inl (cI, 2, .inl f30)), ((r 48), .inl (cI, 6, .inl (u9.2.2.1 0))), ((r 49), .inl (cI, 22, .inl (u9.2.2.1 1))), ((r 50), .inl (cI, 22, .inl (u9.2.2.1 2))), ((r 51), .inl (cI, 22, .inl (u9.2.2.1 3))), ((r 52), .inl (cI, 22, .inl (u9.2.2.1 4))), ((r 53), .inl (cI, 22, .inl (u9.2.2.1 5)))]) (fun (r9 : Int32) (u9 : SU) => (iR r9 0 1) ∧ (iR (u9.1 0) 0 20) ∧ (aR (u9.2.2.1 1) 0 1023) ∧ (aR (u9.2.2.1 2) 0 999) ∧ (aR (u9.2.2.1 5) 0 50)) := by
  refine fun sz => k_enter (cc := cX7_on) (maxL := 2) (ret := some (.boolean)) (Qc := fun A => va_Qi (fun (r9 : Int32) (u9 : SU) => (iR r9 0 1) ∧ (iR (u9.1 0) 0 20) ∧ (aR (u9.2.2.1 1) 0 1023) ∧ (aR (u9.2.2.1 2) 0 999) ∧ (aR (u9.2.2.1 5) 0 50)) (fun u => k_B (dC, dI) vwCl (tyy cI cJ cZ cM) A ((fun (u9 : SU) => [(h, .inr (7, oM r (upd (upd i 1 0) 59 (u9.1 0)) j)), ((r 0), .inl (cI, 1800, .inl f0)), ((r 14), .inl (cI, 2, .inl f14)), ((r 30), .inl (cI, 2, .inl f30)), ((r 48), .inl (cI, 6, .inl (u9.2.2.1 0))), ((r 49), .inl (cI, 22, .inl (u9.2.2.1 1))), ((r 50), .inl (cI, 22, .inl (u9.2.2.1 2))), ((r 51), .inl (cI, 22, .inl (u9.2.2.1 3))), ((r 52), .inl (cI, 22, .inl (u9.2.2.1 4))), ((r 53), .inl (cI, 22, .inl (u9.2.2.1 5)))]) u)) A) sz (by decide +kernel) rfl (Nat.le_of_ble_eq_true rfl) (fun p e s m args below meth c A ls H locs B hP hD hS hl => ?_)
  obtain ⟨hx, hb, hml, hown, hts, hr, hlk, hnm, hK, hA, hN, hC⟩ := id B
  have hown : s.vm.findClass RX7 = some m.cls := hown
  have hl : lv_has ls 2 [(0, .ref h)] := hl
  have w_0 : (Cond.fieldLink RX7 13 "WishSeaModel" "taped" "I").before args s = true := hts _ (List.mem_of_getElem? (i := 1) rfl)
  have w_1 : (Cond.fieldLink RX7 171 "WishSeaModel" "dayOf" "[I").before args s = true := hts _ (List.mem_of_getElem? (i := 2) rfl)
  have w_2 : (Cond.fieldLink RX7 168 "WishSeaModel" "saidOf" "[I").before args s = true := hts _ (List.mem_of_getElem? (i := 3) rfl)
  have w_3 : (Cond.fieldLink RX7 165 "WishSeaModel" "seaOf" "[I").before args s = true := hts _ (List.mem_of_getElem? (i := 4) rfl)
  have w_4 : (Cond.fieldLink RX7 162 "WishSeaModel" "hadOf" "[I").before args s = true := hts _ (List.mem_of_getElem? (i := 5) rfl)
  have w_5 : (Cond.fieldLink RX7 174 "WishSeaModel" "keptMany" "[I").before args s = true := hts _ (List.mem_of_getElem? (i := 6) rfl)
  have w_6 : (Cond.fieldLink RX7 192 "WishSeaModel" "undos" "I").before args s = true := hts _ (List.mem_of_getElem? (i := 7) rfl)
  have hinX7 : ∀ w ∈ u_ws RX7 TX7 92, w ∈ wsX7_on := fun _ h => List.mem_cons_of_mem _ (List.mem_append_right _ h)
  refine lv_aload_n hx hb dX7_on_0 rfl (lv_at hl 0 rfl) ?_
  have f_1_1 : iR (i 1) 0 1600 := hI 1
  refine k_get (D := (dC, dI)) (ci := 7) (v := .int (i 1)) (C := RX7) (T := TX7) (N := 92) hx hb hts hinX7 hown hK hP 0 rfl rfl 1 (by decide) w_0 rfl rfl dX7_on_1 ?_
  refine lv_istore_n (lv' := [(1, .int (i 1)), (0, .ref h)]) hx hb dX7_on_4 rfl hl (by decide) rfl (fun ls hl => ?_)
  refine lv_aload_n hx hb dX7_on_5 rfl (lv_at hl 1 rfl) ?_
  refine lv_iconst (v := 0) hx hb dX7_on_6 (by decide +kernel) ?_
  refine k_put (D := (dC, dI)) (ci := 7) (v := .int 0) (C := RX7) (T := TX7) (N := 92) (ws' := [(h, .inr (7, oM r (upd i 1 0) j)), ((r 0), .inl (cI, 1800, .inl f0)), ((r 14), .inl (cI, 2, .inl f14)), ((r 30), .inl (cI, 2, .inl f30)), ((r 48), .inl (cI, 6, .inl f48)), ((r 49), .inl (cI, 22, .inl f49)), ((r 50), .inl (cI, 22, .inl f50)), ((r 51), .inl (cI, 22, .inl f51)), ((r 52), .inl (cI, 22, .inl f52)), ((r 53), .inl (cI, 22, .inl f53))]) hx hb hts hinX7 tyX7 tyX7_ok nmX7 hown hK hP hD hS 0 rfl rfl 1 (by decide) w_0 rfl rfl rfl rfl (Nat.le_of_ble_eq_true rfl) rfl dX7_on_7 (fun H locs hP hD hS => ?_)
  refine lv_aload_n hx hb dX7_on_10 rfl (lv_at hl 1 rfl) ?_
  refine lv_iload_n hx hb dX7_on_11 rfl (lv_at hl 0 rfl) ?_
  refine k_ci (wc := [(h, .inr (7, oM r (upd i 1 0) j)), ((r 0), .inl (cI, 1800, .inl f0)), ((r 14), .inl (cI, 2, .inl f14)), ((r 30), .inl (cI, 2, .inl f30))]) (wr := [((r 48), .inl (cI, 6, .inl f48)), ((r 49), .inl (cI, 22, .inl f49)), ((r 50), .inl (cI, 22, .inl f50)), ((r 51), .inl (cI, 22, .inl f51)), ((r 52), .inl (cI, 22, .inl f52)), ((r 53), .inl (cI, 22, .inl f53))]) (fun hPc hDc hFc => va_runV (As := [.int (i 1)]) (rest := []) ⟨hx, hb, hml, hown, hts⟩ (s_X7_canBe_v1 l dC dI cI cJ cZ cM h r (upd i 1 0) j (i 1) f0 f14 f30 (mR_upd 1 hI (show iR _ (loI 1) (hiI 1) from (iR_c (n := 0) (a := 0) (b := 1600) (by decide +kernel) (by decide +kernel)))) hf0 hf14 hf30 H.size) (cwV 1 hts gX7_on_X7_canBe rfl rfl rfl (by decide +kernel) ⟨(Nat.le_of_ble_eq_true rfl), (Nat.le_of_ble_eq_true rfl)⟩) (k_pV hPc hDc hK hN hC hS hFc hP (q0 := 0) (ci := 7) rfl rfl) rfl rfl hl.1 rfl (lv_room (Nat.le_of_ble_eq_true rfl)) dX7_on_12 ⟨(Nat.le_of_ble_eq_true rfl), (Nat.le_of_ble_eq_true rfl)⟩) hP hD hS hA [0, 1, 2, 3] [4, 5, 6, 7, 8, 9] rfl rfl rfl rfl (by decide) (fun _ => rfl) 0 0 rfl rfl (fun r_12 u_12 H locs hw hP hD hS => ?_)
  obtain ⟨g_12_0, g_12_1⟩ := hw
  have hP : va_P (dC, dI) vwCl [((r 48), .inl (cI, 6, .inl f48)), ((r 49), .inl (cI, 22, .inl f49)), ((r 50), .inl (cI, 22, .inl f50)), ((r 51), .inl (cI, 22, .inl f51)), ((r 52), .inl (cI, 22, .inl f52)), ((r 53), .inl (cI, 22, .inl f53)), (h, .inr (7, oM r (upd i 1 0) j)), ((r 0), .inl (cI, 1800, .inl f0)), ((r 14), .inl (cI, 2, .inl f14)), ((r 30), .inl (cI, 2, .inl f30))] H := hP
  have hD : va_D A [((r 48), .inl (cI, 6, .inl f48)), ((r 49), .inl (cI, 22, .inl f49)), ((r 50), .inl (cI, 22, .inl f50)), ((r 51), .inl (cI, 22, .inl f51)), ((r 52), .inl (cI, 22, .inl f52)), ((r 53), .inl (cI, 22, .inl f53)), (h, .inr (7, oM r (upd i 1 0) j)), ((r 0), .inl (cI, 1800, .inl f0)), ((r 14), .inl (cI, 2, .inl f14)), ((r 30), .inl (cI, 2, .inl f30))] := hD
  have g_12_1 : (r_12 = 0) ∨ (((w2b f0 4) ≤ (f30 (i 13).toNatClampNeg)) ∧ ((w2b f0 6) ≤ 1023)) := g_12_1
  refine lv_if_ne (tgt := 32) hx hb dX7_on_15 (by decide) (fun c_15 => ?_) (fun c_15 => ?_)
  · have c_15 : ¬ r_12 = 0 := c_15
    have f_32_2 : iR r_12 1 1 := iR_neL c_15 g_12_0 (iR_c (n := 0) (a := 0) (b := 0) (by decide +kernel) (by decide +kernel)) (by decide +kernel)
    obtain ⟨d_15_1_0, d_15_1_1⟩ := g_12_1.resolve_left c_15
    have f_32_3 : iR (w2b f0 4) (-2147483648) 999 := iR_leL d_15_1_0 (iR_top _) (show iR (f30 (i 13).toNatClampNeg) 0 999 from hf30 _) (by decide +kernel)
    have f_32_4 : iR (w2b f0 6) (-2147483648) 1023 := iR_leL d_15_1_1 (iR_top _) (iR_c (n := 1023) (a := 1023) (b := 1023) (by decide +kernel) (by decide +kernel)) (by decide +kernel)
    refine lv_aload_n hx hb dX7_on_32 rfl (lv_at hl 1 rfl) ?_
    refine k_get (D := (dC, dI)) (ci := 7) (v := .ref (r 52)) (C := RX7) (T := TX7) (N := 92) hx hb hts hinX7 hown hK hP 6 rfl rfl 52 (by decide) w_1 rfl rfl dX7_on_33 ?_
    refine lv_iconst (v := 0) hx hb dX7_on_36 (by decide +kernel) ?_
    refine lv_aload_n hx hb dX7_on_37 rfl (lv_at hl 1 rfl) ?_
    refine lv_iconst (v := 0) hx hb dX7_on_38 (by decide +kernel) ?_
    refine k_ci (wc := [(h, .inr (7, oM r (upd i 1 0) j)), ((r 0), .inl (cI, 1800, .inl f0))]) (wr := [((r 48), .inl (cI, 6, .inl f48)), ((r 49), .inl (cI, 22, .inl f49)), ((r 50), .inl (cI, 22, .inl f50)), ((r 51), .inl (cI, 22, .inl f51)), ((r 52), .inl (cI, 22, .inl f52)), ((r 53), .inl (cI, 22, .inl f53)), ((r 14), .inl (cI, 2, .inl f14)), ((r 30), .inl (cI, 2, .inl f30))]) (fun hPc hDc hFc => va_runV (As := [.int 0]) (rest := [.int 0, .ref (r 52)]) ⟨hx, hb, hml, hown, hts⟩ (s_X7_twoBytes_v8 l dC dI cI cJ cZ cM h r (upd i 1 0) j f0 (mR_upd 1 hI (show iR _ (loI 1) (hiI 1) from (iR_c (n := 0) (a := 0) (b := 1600) (by decide +kernel) (by decide +kernel)))) hf0 H.size) (cwV 1 hts gX7_on_X7_twoBytes rfl rfl rfl (by decide +kernel) ⟨(Nat.le_of_ble_eq_true rfl), (Nat.le_of_ble_eq_true rfl)⟩) (k_pV hPc hDc hK hN hC hS hFc hP (q0 := 6) (ci := 7) rfl rfl) rfl rfl hl.1 rfl (lv_room (Nat.le_of_ble_eq_true rfl)) dX7_on_39 ⟨(Nat.le_of_ble_eq_true rfl), (Nat.le_of_ble_eq_true rfl)⟩) hP hD hS hA [6, 7] [0, 1, 2, 3, 4, 5, 8, 9] rfl rfl rfl rfl (by decide) (fun _ => rfl) 0 0 rfl rfl (fun r_39 u_39 H locs hw hP hD hS => ?_)
    obtain ⟨g_39_0, g_39_1⟩ := hw
    obtain rfl : r_39 = (w2b f0 0) := g_39_1
    have hP : va_P (dC, dI) vwCl [((r 48), .inl (cI, 6, .inl f48)), ((r 49), .inl (cI, 22, .inl f49)), ((r 50), .inl (cI, 22, .inl f50)), ((r 51), .inl (cI, 22, .inl f51)), ((r 52), .inl (cI, 22, .inl f52)), ((r 53), .inl (cI, 22, .inl f53)), ((r 14), .inl (cI, 2, .inl f14)), ((r 30), .inl (cI, 2, .inl f30)), (h, .inr (7, oM r (upd i 1 0) j)), ((r 0), .inl (cI, 1800, .inl f0))] H := hP
    have hD : va_D A [((r 48), .inl (cI, 6, .inl f48)), ((r 49), .inl (cI, 22, .inl f49)), ((r 50), .inl (cI, 22, .inl f50)), ((r 51), .inl (cI, 22, .inl f51)), ((r 52), .inl (cI, 22, .inl f52)), ((r 53), .inl (cI, 22, .inl f53)), ((r 14), .inl (cI, 2, .inl f14)), ((r 30), .inl (cI, 2, .inl f30)), (h, .inr (7, oM r (upd i 1 0) j)), ((r 0), .inl (cI, 1800, .inl f0))] := hD
    refine k_iast (g := (upd f52 0 (w2b f0 0))) (ws' := [((r 48), .inl (cI, 6, .inl f48)), ((r 49), .inl (cI, 22, .inl f49)), ((r 50), .inl (cI, 22, .inl f50)), ((r 51), .inl (cI, 22, .inl f51)), ((r 52), .inl (cI, 22, .inl (upd f52 0 (w2b f0 0)))), ((r 53), .inl (cI, 22, .inl f53)), ((r 14), .inl (cI, 2, .inl f14)), ((r 30), .inl (cI, 2, .inl f30)), (h, .inr (7, oM r (upd i 1 0) j)), ((r 0), .inl (cI, 1800, .inl f0))]) hx hb hK hP hD hS 4 0 0 rfl rfl rfl (Nat.le_of_ble_eq_true rfl) (Nat.le_of_ble_eq_true rfl) rfl rfl dX7_on_42 (fun H locs hP hD hS => ?_)
    refine lv_aload_n hx hb dX7_on_43 rfl (lv_at hl 1 rfl) ?_
    refine k_get (D := (dC, dI)) (ci := 7) (v := .ref (r 51)) (C := RX7) (T := TX7) (N := 92) hx hb hts hinX7 hown hK hP 8 rfl rfl 51 (by decide) w_2 rfl rfl dX7_on_44 ?_
    refine lv_iconst (v := 0) hx hb dX7_on_47 (by decide +kernel) ?_
    refine lv_aload_n hx hb dX7_on_48 rfl (lv_at hl 1 rfl) ?_
    refine lv_iconst (v := 2) hx hb dX7_on_49 (by decide +kernel) ?_
    refine k_ci (wc := [(h, .inr (7, oM r (upd i 1 0) j)), ((r 0), .inl (cI, 1800, .inl f0))]) (wr := [((r 48), .inl (cI, 6, .inl f48)), ((r 49), .inl (cI, 22, .inl f49)), ((r 50), .inl (cI, 22, .inl f50)), ((r 51), .inl (cI, 22, .inl f51)), ((r 52), .inl (cI, 22, .inl (upd f52 0 (w2b f0 0)))), ((r 53), .inl (cI, 22, .inl f53)), ((r 14), .inl (cI, 2, .inl f14)), ((r 30), .inl (cI, 2, .inl f30))]) (fun hPc hDc hFc => va_runV (As := [.int 2]) (rest := [.int 0, .ref (r 51)]) ⟨hx, hb, hml, hown, hts⟩ (s_X7_twoBytes_v9 l dC dI cI cJ cZ cM h r (upd i 1 0) j f0 (mR_upd 1 hI (show iR _ (loI 1) (hiI 1) from (iR_c (n := 0) (a := 0) (b := 1600) (by decide +kernel) (by decide +kernel)))) hf0 H.size) (cwV 1 hts gX7_on_X7_twoBytes rfl rfl rfl (by decide +kernel) ⟨(Nat.le_of_ble_eq_true rfl), (Nat.le_of_ble_eq_true rfl)⟩) (k_pV hPc hDc hK hN hC hS hFc hP (q0 := 8) (ci := 7) rfl rfl) rfl rfl hl.1 rfl (lv_room (Nat.le_of_ble_eq_true rfl)) dX7_on_50 ⟨(Nat.le_of_ble_eq_true rfl), (Nat.le_of_ble_eq_true rfl)⟩) hP hD hS hA [8, 9] [0, 1, 2, 3, 4, 5, 6, 7] rfl rfl rfl rfl (by decide) (fun _ => rfl) 0 0 rfl rfl (fun r_50 u_50 H locs hw hP hD hS => ?_)
    obtain ⟨g_50_0, g_50_1⟩ := hw
    obtain rfl : r_50 = (w2b f0 2) := g_50_1
    have hP : va_P (dC, dI) vwCl [((r 48), .inl (cI, 6, .inl f48)), ((r 49), .inl (cI, 22, .inl f49)), ((r 50), .inl (cI, 22, .inl f50)), ((r 51), .inl (cI, 22, .inl f51)), ((r 52), .inl (cI, 22, .inl (upd f52 0 (w2b f0 0)))), ((r 53), .inl (cI, 22, .inl f53)), ((r 14), .inl (cI, 2, .inl f14)), ((r 30), .inl (cI, 2, .inl f30)), (h, .inr (7, oM r (upd i 1 0) j)), ((r 0), .inl (cI, 1800, .inl f0))] H := hP
    have hD : va_D A [((r 48), .inl (cI, 6, .inl f48)), ((r 49), .inl (cI, 22, .inl f49)), ((r 50), .inl (cI, 22, .inl f50)), ((r 51), .inl (cI, 22, .inl f51)), ((r 52), .inl (cI, 22, .inl (upd f52 0 (w2b f0 0)))), ((r 53), .inl (cI, 22, .inl f53)), ((r 14), .inl (cI, 2, .inl f14)), ((r 30), .inl (cI, 2, .inl f30)), (h, .inr (7, oM r (upd i 1 0) j)), ((r 0), .inl (cI, 1800, .inl f0))] := hD
    refine k_iast (g := (upd f51 0 (w2b f0 2))) (ws' := [((r 48), .inl (cI, 6, .inl f48)), ((r 49), .inl (cI, 22, .inl f49)), ((r 50), .inl (cI, 22, .inl f50)), ((r 51), .inl (cI, 22, .inl (upd f51 0 (w2b f0 2)))), ((r 52), .inl (cI, 22, .inl (upd f52 0 (w2b f0 0)))), ((r 53), .inl (cI, 22, .inl f53)), ((r 14), .inl (cI, 2, .inl f14)), ((r 30), .inl (cI, 2, .inl f30)), (h, .inr (7, oM r (upd i 1 0) j)), ((r 0), .inl (cI, 1800, .inl f0))]) hx hb hK hP hD hS 3 0 0 rfl rfl rfl (Nat.le_of_ble_eq_true rfl) (Nat.le_of_ble_eq_true rfl) rfl rfl dX7_on_53 (fun H locs hP hD hS => ?_)
    refine lv_aload_n hx hb dX7_on_54 rfl (lv_at hl 1 rfl) ?_
    refine k_get (D := (dC, dI)) (ci := 7) (v := .ref (r 50)) (C := RX7) (T := TX7) (N := 92) hx hb hts hinX7 hown hK hP 8 rfl rfl 50 (by decide) w_3 rfl rfl dX7_on_55 ?_
    refine lv_iconst (v := 0) hx hb dX7_on_58 (by decide +kernel) ?_
    refine lv_aload_n hx hb dX7_on_59 rfl (lv_at hl 1 rfl) ?_
    refine lv_iconst (v := 4) hx hb dX7_on_60 (by decide +kernel) ?_
    refine k_ci (wc := [(h, .inr (7, oM r (upd i 1 0) j)), ((r 0), .inl (cI, 1800, .inl f0))]) (wr := [((r 48), .inl (cI, 6, .inl f48)), ((r 49), .inl (cI, 22, .inl f49)), ((r 50), .inl (cI, 22, .inl f50)), ((r 51), .inl (cI, 22, .inl (upd f51 0 (w2b f0 2)))), ((r 52), .inl (cI, 22, .inl (upd f52 0 (w2b f0 0)))), ((r 53), .inl (cI, 22, .inl f53)), ((r 14), .inl (cI, 2, .inl f14)), ((r 30), .inl (cI, 2, .inl f30))]) (fun hPc hDc hFc => va_runV (As := [.int 4]) (rest := [.int 0, .ref (r 50)]) ⟨hx, hb, hml, hown, hts⟩ (s_X7_twoBytes_v10 l dC dI cI cJ cZ cM h r (upd i 1 0) j f0 (mR_upd 1 hI (show iR _ (loI 1) (hiI 1) from (iR_c (n := 0) (a := 0) (b := 1600) (by decide +kernel) (by decide +kernel)))) hf0 H.size) (cwV 1 hts gX7_on_X7_twoBytes rfl rfl rfl (by decide +kernel) ⟨(Nat.le_of_ble_eq_true rfl), (Nat.le_of_ble_eq_true rfl)⟩) (k_pV hPc hDc hK hN hC hS hFc hP (q0 := 8) (ci := 7) rfl rfl) rfl rfl hl.1 rfl (lv_room (Nat.le_of_ble_eq_true rfl)) dX7_on_61 ⟨(Nat.le_of_ble_eq_true rfl), (Nat.le_of_ble_eq_true rfl)⟩) hP hD hS hA [8, 9] [0, 1, 2, 3, 4, 5, 6, 7] rfl rfl rfl rfl (by decide) (fun _ => rfl) 0 0 rfl rfl (fun r_61 u_61 H locs hw hP hD hS => ?_)
    obtain ⟨g_61_0, g_61_1⟩ := hw
    obtain rfl : r_61 = (w2b f0 4) := g_61_1
    have hP : va_P (dC, dI) vwCl [((r 48), .inl (cI, 6, .inl f48)), ((r 49), .inl (cI, 22, .inl f49)), ((r 50), .inl (cI, 22, .inl f50)), ((r 51), .inl (cI, 22, .inl (upd f51 0 (w2b f0 2)))), ((r 52), .inl (cI, 22, .inl (upd f52 0 (w2b f0 0)))), ((r 53), .inl (cI, 22, .inl f53)), ((r 14), .inl (cI, 2, .inl f14)), ((r 30), .inl (cI, 2, .inl f30)), (h, .inr (7, oM r (upd i 1 0) j)), ((r 0), .inl (cI, 1800, .inl f0))] H := hP
    have hD : va_D A [((r 48), .inl (cI, 6, .inl f48)), ((r 49), .inl (cI, 22, .inl f49)), ((r 50), .inl (cI, 22, .inl f50)), ((r 51), .inl (cI, 22, .inl (upd f51 0 (w2b f0 2)))), ((r 52), .inl (cI, 22, .inl (upd f52 0 (w2b f0 0)))), ((r 53), .inl (cI, 22, .inl f53)), ((r 14), .inl (cI, 2, .inl f14)), ((r 30), .inl (cI, 2, .inl f30)), (h, .inr (7, oM r (upd i 1 0) j)), ((r 0), .inl (cI, 1800, .inl f0))] := hD
    have f_61_5 : iR (w2b f0 4) 0 999 := iR_both g_61_0 f_32_3 (by decide +kernel)
    refine k_iast (g := (upd f50 0 (w2b f0 4))) (ws' := [((r 48), .inl (cI, 6, .inl f48)), ((r 49), .inl (cI, 22, .inl f49)), ((r 50), .inl (cI, 22, .inl (upd f50 0 (w2b f0 4)))), ((r 51), .inl (cI, 22, .inl (upd f51 0 (w2b f0 2)))), ((r 52), .inl (cI, 22, .inl (upd f52 0 (w2b f0 0)))), ((r 53), .inl (cI, 22, .inl f53)), ((r 14), .inl (cI, 2, .inl f14)), ((r 30), .inl (cI, 2, .inl f30)), (h, .inr (7, oM r (upd i 1 0) j)), ((r 0), .inl (cI, 1800, .inl f0))]) hx hb hK hP hD hS 2 0 0 rfl rfl rfl (Nat.le_of_ble_eq_true rfl) (Nat.le_of_ble_eq_true rfl) rfl rfl dX7_on_64 (fun H locs hP hD hS => ?_)
    refine lv_aload_n hx hb dX7_on_65 rfl (lv_at hl 1 rfl) ?_
    refine k_get (D := (dC, dI)) (ci := 7) (v := .ref (r 49)) (C := RX7) (T := TX7) (N := 92) hx hb hts hinX7 hown hK hP 8 rfl rfl 49 (by decide) w_4 rfl rfl dX7_on_66 ?_
    refine lv_iconst (v := 0) hx hb dX7_on_69 (by decide +kernel) ?_
    refine lv_aload_n hx hb dX7_on_70 rfl (lv_at hl 1 rfl) ?_
    refine lv_bipush (v := 6) hx hb dX7_on_71 (by decide +kernel) ?_
    refine k_ci (wc := [(h, .inr (7, oM r (upd i 1 0) j)), ((r 0), .inl (cI, 1800, .inl f0))]) (wr := [((r 48), .inl (cI, 6, .inl f48)), ((r 49), .inl (cI, 22, .inl f49)), ((r 50), .inl (cI, 22, .inl (upd f50 0 (w2b f0 4)))), ((r 51), .inl (cI, 22, .inl (upd f51 0 (w2b f0 2)))), ((r 52), .inl (cI, 22, .inl (upd f52 0 (w2b f0 0)))), ((r 53), .inl (cI, 22, .inl f53)), ((r 14), .inl (cI, 2, .inl f14)), ((r 30), .inl (cI, 2, .inl f30))]) (fun hPc hDc hFc => va_runV (As := [.int 6]) (rest := [.int 0, .ref (r 49)]) ⟨hx, hb, hml, hown, hts⟩ (s_X7_twoBytes_v11 l dC dI cI cJ cZ cM h r (upd i 1 0) j f0 (mR_upd 1 hI (show iR _ (loI 1) (hiI 1) from (iR_c (n := 0) (a := 0) (b := 1600) (by decide +kernel) (by decide +kernel)))) hf0 H.size) (cwV 1 hts gX7_on_X7_twoBytes rfl rfl rfl (by decide +kernel) ⟨(Nat.le_of_ble_eq_true rfl), (Nat.le_of_ble_eq_true rfl)⟩) (k_pV hPc hDc hK hN hC hS hFc hP (q0 := 8) (ci := 7) rfl rfl) rfl rfl hl.1 rfl (lv_room (Nat.le_of_ble_eq_true rfl)) dX7_on_73 ⟨(Nat.le_of_ble_eq_true rfl), (Nat.le_of_ble_eq_true rfl)⟩) hP hD hS hA [8, 9] [0, 1, 2, 3, 4, 5, 6, 7] rfl rfl rfl rfl (by decide) (fun _ => rfl) 0 0 rfl rfl (fun r_73 u_73 H locs hw hP hD hS => ?_)
    obtain ⟨g_73_0, g_73_1⟩ := hw
    obtain rfl : r_73 = (w2b f0 6) := g_73_1
    have hP : va_P (dC, dI) vwCl [((r 48), .inl (cI, 6, .inl f48)), ((r 49), .inl (cI, 22, .inl f49)), ((r 50), .inl (cI, 22, .inl (upd f50 0 (w2b f0 4)))), ((r 51), .inl (cI, 22, .inl (upd f51 0 (w2b f0 2)))), ((r 52), .inl (cI, 22, .inl (upd f52 0 (w2b f0 0)))), ((r 53), .inl (cI, 22, .inl f53)), ((r 14), .inl (cI, 2, .inl f14)), ((r 30), .inl (cI, 2, .inl f30)), (h, .inr (7, oM r (upd i 1 0) j)), ((r 0), .inl (cI, 1800, .inl f0))] H := hP
    have hD : va_D A [((r 48), .inl (cI, 6, .inl f48)), ((r 49), .inl (cI, 22, .inl f49)), ((r 50), .inl (cI, 22, .inl (upd f50 0 (w2b f0 4)))), ((r 51), .inl (cI, 22, .inl (upd f51 0 (w2b f0 2)))), ((r 52), .inl (cI, 22, .inl (upd f52 0 (w2b f0 0)))), ((r 53), .inl (cI, 22, .inl f53)), ((r 14), .inl (cI, 2, .inl f14)), ((r 30), .inl (cI, 2, .inl f30)), (h, .inr (7, oM r (upd i 1 0) j)), ((r 0), .inl (cI, 1800, .inl f0))] := hD
    have f_73_6 : iR (w2b f0 6) 0 1023 := iR_both g_73_0 f_32_4 (by decide +kernel)
    refine k_iast (g := (upd f49 0 (w2b f0 6))) (ws' := [((r 48), .inl (cI, 6, .inl f48)), ((r 49), .inl (cI, 22, .inl (upd f49 0 (w2b f0 6)))), ((r 50), .inl (cI, 22, .inl (upd f50 0 (w2b f0 4)))), ((r 51), .inl (cI, 22, .inl (upd f51 0 (w2b f0 2)))), ((r 52), .inl (cI, 22, .inl (upd f52 0 (w2b f0 0)))), ((r 53), .inl (cI, 22, .inl f53)), ((r 14), .inl (cI, 2, .inl f14)), ((r 30), .inl (cI, 2, .inl f30)), (h, .inr (7, oM r (upd i 1 0) j)), ((r 0), .inl (cI, 1800, .inl f0))]) hx hb hK hP hD hS 1 0 0 rfl rfl rfl (Nat.le_of_ble_eq_true rfl) (Nat.le_of_ble_eq_true rfl) rfl rfl dX7_on_76 (fun H locs hP hD hS => ?_)
    refine lv_aload_n hx hb dX7_on_77 rfl (lv_at hl 1 rfl) ?_
    refine k_get (D := (dC, dI)) (ci := 7) (v := .ref (r 53)) (C := RX7) (T := TX7) (N := 92) hx hb hts hinX7 hown hK hP 8 rfl rfl 53 (by decide) w_5 rfl rfl dX7_on_78 ?_
    refine lv_iconst (v := 0) hx hb dX7_on_81 (by decide +kernel) ?_
    refine lv_iconst (v := 0) hx hb dX7_on_82 (by decide +kernel) ?_
    refine k_iast (g := (upd f53 0 0)) (ws' := [((r 48), .inl (cI, 6, .inl f48)), ((r 49), .inl (cI, 22, .inl (upd f49 0 (w2b f0 6)))), ((r 50), .inl (cI, 22, .inl (upd f50 0 (w2b f0 4)))), ((r 51), .inl (cI, 22, .inl (upd f51 0 (w2b f0 2)))), ((r 52), .inl (cI, 22, .inl (upd f52 0 (w2b f0 0)))), ((r 53), .inl (cI, 22, .inl (upd f53 0 0))), ((r 14), .inl (cI, 2, .inl f14)), ((r 30), .inl (cI, 2, .inl f30)), (h, .inr (7, oM r (upd i 1 0) j)), ((r 0), .inl (cI, 1800, .inl f0))]) hx hb hK hP hD hS 5 0 0 rfl rfl rfl (Nat.le_of_ble_eq_true rfl) (Nat.le_of_ble_eq_true rfl) rfl rfl dX7_on_83 (fun H locs hP hD hS => ?_)
    refine lv_aload_n hx hb dX7_on_84 rfl (lv_at hl 1 rfl) ?_
    refine lv_iconst (v := 0) hx hb dX7_on_85 (by decide +kernel) ?_
    refine k_put (D := (dC, dI)) (ci := 7) (v := .int 0) (C := RX7) (T := TX7) (N := 92) (ws' := [((r 48), .inl (cI, 6, .inl f48)), ((r 49), .inl (cI, 22, .inl (upd f49 0 (w2b f0 6)))), ((r 50), .inl (cI, 22, .inl (upd f50 0 (w2b f0 4)))), ((r 51), .inl (cI, 22, .inl (upd f51 0 (w2b f0 2)))), ((r 52), .inl (cI, 22, .inl (upd f52 0 (w2b f0 0)))), ((r 53), .inl (cI, 22, .inl (upd f53 0 0))), ((r 14), .inl (cI, 2, .inl f14)), ((r 30), .inl (cI, 2, .inl f30)), (h, .inr (7, oM r (upd (upd i 1 0) 59 0) j)), ((r 0), .inl (cI, 1800, .inl f0))]) hx hb hts hinX7 tyX7 tyX7_ok nmX7 hown hK hP hD hS 8 rfl rfl 59 (by decide) w_6 rfl rfl rfl rfl (Nat.le_of_ble_eq_true rfl) rfl dX7_on_86 (fun H locs hP hD hS => ?_)
    refine lv_iconst (v := 1) hx hb dX7_on_89 (by decide +kernel) ?_
    exact k_ri B hP hD hS dX7_on_90 ((fun k9 => match k9 with | 0 => 0 | _ => 0), (fun _ => 0), (fun k9 => match k9 with | 0 => f48 | 1 => (upd f49 0 (w2b f0 6)) | 2 => (upd f50 0 (w2b f0 4)) | 3 => (upd f51 0 (w2b f0 2)) | 4 => (upd f52 0 (w2b f0 0)) | 5 => (upd f53 0 0) | _ => (fun _ => 0)), (fun _ => (fun _ => 0)), (fun _ => 0)) [8, 9, 6, 7, 0, 1, 2, 3, 4, 5] rfl rfl rfl (Nat.le_of_ble_eq_true rfl) (Nat.le_of_ble_eq_true rfl) ⟨(show iR 1 0 1 from (iR_c (n := 1) (a := 0) (b := 1) (by decide +kernel) (by decide +kernel))), (show iR 0 0 20 from (iR_c (n := 0) (a := 0) (b := 20) (by decide +kernel) (by decide +kernel))), (show aR (upd f49 0 (w2b f0 6)) 0 1023 from (aR_upd _ hf49 f_73_6)), (show aR (upd f50 0 (w2b f0 4)) 0 999 from (aR_upd _ hf50 f_61_5)), (show aR (upd f53 0 0) 0 50 from (aR_upd _ hf53 (iR_c (n := 0) (a := 0) (b := 50) (by decide +kernel) (by decide +kernel))))⟩
  · have c_15 : r_12 = 0 := c_15
    have f_18_2 : iR r_12 0 0 := iR_eqL c_15 g_12_0 (iR_c (n := 0) (a := 0) (b := 0) (by decide +kernel) (by decide +kernel)) (by decide +kernel)
    refine lv_aload_n hx hb dX7_on_18 rfl (lv_at hl 1 rfl) ?_
    refine lv_iconst (v := 5) hx hb dX7_on_19 (by decide +kernel) ?_
    refine k_ci (wc := [(h, .inr (7, oM r (upd i 1 0) j)), ((r 48), .inl (cI, 6, .inl f48))]) (wr := [((r 49), .inl (cI, 22, .inl f49)), ((r 50), .inl (cI, 22, .inl f50)), ((r 51), .inl (cI, 22, .inl f51)), ((r 52), .inl (cI, 22, .inl f52)), ((r 53), .inl (cI, 22, .inl f53)), ((r 0), .inl (cI, 1800, .inl f0)), ((r 14), .inl (cI, 2, .inl f14)), ((r 30), .inl (cI, 2, .inl f30))]) (fun hPc hDc hFc => va_runV (As := [.int 5]) (rest := []) ⟨hx, hb, hml, hown, hts⟩ (s_X7_refuses_v6 l dC dI cI cJ cZ cM h r (upd i 1 0) j 5 f48 (iR_c (n := 5) (a := 0) (b := 5) (by decide +kernel) (by decide +kernel)) (mR_upd 1 hI (show iR _ (loI 1) (hiI 1) from (iR_c (n := 0) (a := 0) (b := 1600) (by decide +kernel) (by decide +kernel)))) H.size) (cwV 1 hts gX7_on_X7_refuses rfl rfl rfl (by decide +kernel) ⟨(Nat.le_of_ble_eq_true rfl), (Nat.le_of_ble_eq_true rfl)⟩) (k_pV hPc hDc hK hN hC hS hFc hP (q0 := 6) (ci := 7) rfl rfl) rfl rfl hl.1 rfl (lv_room (Nat.le_of_ble_eq_true rfl)) dX7_on_20 ⟨(Nat.le_of_ble_eq_true rfl), (Nat.le_of_ble_eq_true rfl)⟩) hP hD hS hA [6, 0] [1, 2, 3, 4, 5, 7, 8, 9] rfl rfl rfl rfl (by decide) (fun _ => rfl) 0 0 rfl rfl (fun r_20 u_20 H locs hw hP hD hS => ?_)
    have g_20_0 := hw
    obtain rfl : r_20 = (-1) := g_20_0
    have hP : va_P (dC, dI) vwCl [((r 49), .inl (cI, 22, .inl f49)), ((r 50), .inl (cI, 22, .inl f50)), ((r 51), .inl (cI, 22, .inl f51)), ((r 52), .inl (cI, 22, .inl f52)), ((r 53), .inl (cI, 22, .inl f53)), ((r 0), .inl (cI, 1800, .inl f0)), ((r 14), .inl (cI, 2, .inl f14)), ((r 30), .inl (cI, 2, .inl f30)), (h, .inr (7, oM r (upd i 1 0) j)), ((r 48), .inl (cI, 6, .inl (u_20.2.2.1 0)))] H := hP
    have hD : va_D A [((r 49), .inl (cI, 22, .inl f49)), ((r 50), .inl (cI, 22, .inl f50)), ((r 51), .inl (cI, 22, .inl f51)), ((r 52), .inl (cI, 22, .inl f52)), ((r 53), .inl (cI, 22, .inl f53)), ((r 0), .inl (cI, 1800, .inl f0)), ((r 14), .inl (cI, 2, .inl f14)), ((r 30), .inl (cI, 2, .inl f30)), (h, .inr (7, oM r (upd i 1 0) j)), ((r 48), .inl (cI, 6, .inl (u_20.2.2.1 0)))] := hD
    refine lv_if_lt (tgt := 30) hx hb dX7_on_23 (by decide) (fun _ => ?_) (fun q9 => absurd q9 (by decide +kernel))
    refine lv_iconst (v := 0) hx hb dX7_on_30 (by decide +kernel) ?_
    exact k_ri B hP hD hS dX7_on_31 ((fun k9 => match k9 with | 0 => (i 59) | _ => 0), (fun _ => 0), (fun k9 => match k9 with | 0 => (u_20.2.2.1 0) | 1 => f49 | 2 => f50 | 3 => f51 | 4 => f52 | 5 => f53 | _ => (fun _ => 0)), (fun _ => (fun _ => 0)), (fun _ => 0)) [8, 5, 6, 7, 9, 0, 1, 2, 3, 4] rfl rfl rfl (Nat.le_of_ble_eq_true rfl) (Nat.le_of_ble_eq_true rfl) ⟨(show iR 0 0 1 from (iR_c (n := 0) (a := 0) (b := 1) (by decide +kernel) (by decide +kernel))), (show iR (i 59) 0 20 from (hI 59)), (show aR f49 0 1023 from hf49), (show aR f50 0 999 from hf50), (show aR f53 0 50 from hf53)⟩
set_option maxHeartbeats 8000000 in
set_option maxRecDepth 100000 in
theorem s_X7_status_v0 (l : Launch) (dC : Nat → ClassId) (dI : Nat → Nat → Nat) (cI cJ cZ cM : ClassId) (h : Nat) (r : Nat → Nat) (i : Nat → Int32) (j : Nat → Int64) (x1 : Int32) (f48 : Nat → Int32) (hI : mR i) : k_Mi l yX7_status wsX7_status ({ frames := 2, cells := 0, slots := 0, locals := 62 }) (dC, dI) vwCl (tyy cI cJ cZ cM) [(h, .inr (7, oM r i j)), ((r 48), .inl (cI, 6, .inl f48))] [.ref h, .int x1] 0 0 (fun (u9 : Unit) => [(h, .inr (7, oM r i j)), ((r 48), .inl (cI, 6, .inl f48))]) (fun (r9 : Int32) (u9 : Unit) => True) := by
  refine fun sz => k_enter (cc := cX7_status) (maxL := 2) (ret := some (.int)) (Qc := fun A => va_Qi (fun (r9 : Int32) (u9 : Unit) => True) (fun u => k_B (dC, dI) vwCl (tyy cI cJ cZ cM) A ((fun (u9 : Unit) => [(h, .inr (7, oM r i j)), ((r 48), .inl (cI, 6, .inl f48))]) u)) A) sz (by decide +kernel) rfl (Nat.le_of_ble_eq_true rfl) (fun p e s m args below meth c A ls H locs B hP hD hS hl => ?_)
  obtain ⟨hx, hb, hml, hown, hts, hr, hlk, hnm, hK, hA, hN, hC⟩ := id B
  have hown : s.vm.findClass RX7 = some m.cls := hown
  have hl : lv_has ls 2 [(0, .ref h), (1, .int x1)] := hl
  have w_0 : (Cond.fieldLink RX7 159 "WishSeaModel" "refused" "[I").before args s = true := hts _ (List.mem_of_getElem? (i := 1) rfl)
  have hinX7 : ∀ w ∈ u_ws RX7 TX7 92, w ∈ wsX7_status := fun _ h => List.mem_cons_of_mem _ (List.mem_append_right _ h)
  refine lv_iload_n hx hb dX7_status_0 rfl (lv_at hl 1 rfl) ?_
  refine lv_iconst (v := 0) hx hb dX7_status_1 (by decide +kernel) ?_
  refine lv_iconst (v := 5) hx hb dX7_status_2 (by decide +kernel) ?_
  refine k_ci (wc := []) (wr := [(h, .inr (7, oM r i j)), ((r 48), .inl (cI, 6, .inl f48))]) (fun hPc hDc hFc => va_runS (As := [.int x1, .int 0, .int 5]) (rest := []) ⟨hx, hb, hml, hown, hts⟩ (s_X7_is_v0 l dC dI cI cJ cZ cM x1 0 5 H.size) (va_cwS 3 hts gX7_status_X7_is rfl rfl rfl (by decide +kernel) ⟨(Nat.le_of_ble_eq_true rfl), (Nat.le_of_ble_eq_true rfl)⟩) (k_pS hPc hDc hK hN hC hS hFc) rfl rfl hl.1 rfl (lv_room (Nat.le_of_ble_eq_true rfl)) dX7_status_3 ⟨(Nat.le_of_ble_eq_true rfl), (Nat.le_of_ble_eq_true rfl)⟩) hP hD hS hA [] [0, 1] rfl rfl rfl rfl (by decide) (fun _ => rfl) 0 0 rfl rfl (fun r_3 u_3 H locs hw hP hD hS => ?_)
  obtain ⟨g_3_0, g_3_1⟩ := hw
  have hP : va_P (dC, dI) vwCl [(h, .inr (7, oM r i j)), ((r 48), .inl (cI, 6, .inl f48))] H := hP
  have hD : va_D A [(h, .inr (7, oM r i j)), ((r 48), .inl (cI, 6, .inl f48))] := hD
  have g_3_1 : (r_3 = 0) ∨ ((0 ≤ x1) ∧ (x1 ≤ 5)) := g_3_1
  refine lv_if_eq (tgt := 18) hx hb dX7_status_6 (by decide) (fun c_6 => ?_) (fun c_6 => ?_)
  · have c_6 : r_3 = 0 := c_6
    have f_18_1 : iR r_3 0 0 := iR_eqL c_6 g_3_0 (iR_c (n := 0) (a := 0) (b := 0) (by decide +kernel) (by decide +kernel)) (by decide +kernel)
    refine lv_iconst (v := (-1)) hx hb dX7_status_18 (by decide +kernel) ?_
    exact k_ri B hP hD hS dX7_status_19 () [0, 1] rfl rfl rfl (Nat.le_of_ble_eq_true rfl) (Nat.le_of_ble_eq_true rfl) trivial
  · have c_6 : ¬ r_3 = 0 := c_6
    have f_9_1 : iR r_3 1 1 := iR_neL c_6 g_3_0 (iR_c (n := 0) (a := 0) (b := 0) (by decide +kernel) (by decide +kernel)) (by decide +kernel)
    obtain ⟨d_6_1_0, d_6_1_1⟩ := g_3_1.resolve_left c_6
    have f_9_2 : iR x1 0 2147483647 := iR_leR d_6_1_0 (iR_c (n := 0) (a := 0) (b := 0) (by decide +kernel) (by decide +kernel)) (iR_top _) (by decide +kernel)
    have f_9_3 : iR x1 0 5 := iR_leL d_6_1_1 f_9_2 (iR_c (n := 5) (a := 5) (b := 5) (by decide +kernel) (by decide +kernel)) (by decide +kernel)
    refine lv_aload_n hx hb dX7_status_9 rfl (lv_at hl 0 rfl) ?_
    refine k_get (D := (dC, dI)) (ci := 7) (v := .ref (r 48)) (C := RX7) (T := TX7) (N := 92) hx hb hts hinX7 hown hK hP 0 rfl rfl 48 (by decide) w_0 rfl rfl dX7_status_10 ?_
    refine lv_iload_n hx hb dX7_status_13 rfl (lv_at hl 1 rfl) ?_
    refine va_iald hx hb hK hP 1 0 rfl rfl (iR_vp f_9_3 (by decide +kernel)) dX7_status_14 ?_
    refine lv_goto (tgt := 19) hx hb dX7_status_15 (by decide) ?_
    exact k_ri B hP hD hS dX7_status_19 () [0, 1] rfl rfl rfl (Nat.le_of_ble_eq_true rfl) (Nat.le_of_ble_eq_true rfl) trivial
set_option maxHeartbeats 8000000 in
set_option maxRecDepth 100000 in
theorem s_X7_rank_v0 (l : Launch) (dC : Nat → ClassId) (dI : Nat → Nat → Nat) (cI cJ cZ cM : ClassId) (x0 : Int32)  : k_Mi l yX7_rank wsX7_rank ({ frames := 1, cells := 0, slots := 0, locals := 40 }) (dC, dI) vwCl (tyy cI cJ cZ cM) [] [.int x0] 0 0 (fun (u9 : Unit) => []) (fun (r9 : Int32) (u9 : Unit) => (iR r9 1 6) ∧ (r9.toInt = rkz x0.toInt)) := by
  refine fun sz => k_enter (cc := cX7_rank) (maxL := 1) (ret := some (.int)) (Qc := fun A => va_Qi (fun (r9 : Int32) (u9 : Unit) => (iR r9 1 6) ∧ (r9.toInt = rkz x0.toInt)) (fun u => k_B (dC, dI) vwCl (tyy cI cJ cZ cM) A ((fun (u9 : Unit) => []) u)) A) sz (by decide +kernel) rfl (Nat.le_of_ble_eq_true rfl) (fun p e s m args below meth c A ls H locs B hP hD hS hl => ?_)
  obtain ⟨hx, hb, hml, hown, hts, hr, hlk, hnm, hK, hA, hN, hC⟩ := id B
  have hown : s.vm.findClass RX7 = some m.cls := hown
  have hl : lv_has ls 1 [(0, .int x0)] := hl
  refine lv_iload_n hx hb dX7_rank_0 rfl (lv_at hl 0 rfl) ?_
  refine lv_bipush (v := 21) hx hb dX7_rank_1 (by decide +kernel) ?_
  refine lv_icmp_ne (tgt := 10) hx hb dX7_rank_3 (by decide) (fun c_3p-1p0p1 => ?_) (fun c_3p-1p0p1 => ?_)
  · have c_3p-1p0p1 : ¬ x0 = 21 := c_3p-1p0p1
    refine lv_iload_n hx hb dX7_rank_10 rfl (lv_at hl 0 rfl) ?_
    refine lv_bipush (v := 20) hx hb dX7_rank_11 (by decide +kernel) ?_
    refine lv_icmp_ne (tgt := 20) hx hb dX7_rank_13 (by decide) (fun c_13p-1p0p1p3p10p11 => ?_) (fun c_13p-1p0p1p3p10p11 => ?_)
    · have c_13p-1p0p1p3p10p11 : ¬ x0 = 20 := c_13p-1p0p1p3p10p11
      refine lv_iload_n hx hb dX7_rank_20 rfl (lv_at hl 0 rfl) ?_
      refine lv_bipush (v := 22) hx hb dX7_rank_21 (by decide +kernel) ?_
      refine lv_icmp_ne (tgt := 30) hx hb dX7_rank_23 (by decide) (fun c_23p-1p0p1p3p10p11p13p20p21 => ?_) (fun c_23p-1p0p1p3p10p11p13p20p21 => ?_)
      · have c_23p-1p0p1p3p10p11p13p20p21 : ¬ x0 = 22 := c_23p-1p0p1p3p10p11p13p20p21
        refine lv_iload_n hx hb dX7_rank_30 rfl (lv_at hl 0 rfl) ?_
        refine lv_bipush (v := 17) hx hb dX7_rank_31 (by decide +kernel) ?_
        refine lv_icmp_eq (tgt := 48) hx hb dX7_rank_33 (by decide) (fun c_33p-1p0p1p3p10p11p13p20p21p23p30p31 => ?_) (fun c_33p-1p0p1p3p10p11p13p20p21p23p30p31 => ?_)
        · have c_33p-1p0p1p3p10p11p13p20p21p23p30p31 : x0 = 17 := c_33p-1p0p1p3p10p11p13p20p21p23p30p31
          have f_48p-1p0p1p3p10p11p13p20p21p23p30p31_1 : iR x0 17 17 := iR_eqL c_33p-1p0p1p3p10p11p13p20p21p23p30p31 (iR_top _) (iR_c (n := 17) (a := 17) (b := 17) (by decide +kernel) (by decide +kernel)) (by decide +kernel)
          refine lv_iconst (v := 4) hx hb dX7_rank_48 (by decide +kernel) ?_
          refine lv_goto (tgt := 70) hx hb dX7_rank_49 (by decide) ?_
          exact k_ri B hP hD hS dX7_rank_70 () [] rfl rfl rfl (Nat.le_of_ble_eq_true rfl) (Nat.le_of_ble_eq_true rfl) ⟨(show iR 4 1 6 from (iR_c (n := 4) (a := 1) (b := 6) (by decide +kernel) (by decide +kernel))), (show (4 : Int32).toInt = rkz x0.toInt from (by have r0 : ¬ x0.toInt = 21 := i_ti_ne rfl (by decide) c_3p-1p0p1; have r1 : ¬ x0.toInt = 20 := i_ti_ne rfl (by decide) c_13p-1p0p1p3p10p11; have r2 : ¬ x0.toInt = 22 := i_ti_ne rfl (by decide) c_23p-1p0p1p3p10p11p13p20p21; have r3 : x0.toInt = 17 := i_ti_eq rfl (by decide) c_33p-1p0p1p3p10p11p13p20p21p23p30p31; show ((4 : Int32).toInt) = rkz x0.toInt; unfold rkz; (repeat' split) <;> first | rfl | (exfalso; omega) | decide))⟩
        · have c_33p-1p0p1p3p10p11p13p20p21p23p30p31 : ¬ x0 = 17 := c_33p-1p0p1p3p10p11p13p20p21p23p30p31
          refine lv_iload_n hx hb dX7_rank_36 rfl (lv_at hl 0 rfl) ?_
          refine lv_bipush (v := 18) hx hb dX7_rank_37 (by decide +kernel) ?_
          refine lv_icmp_eq (tgt := 48) hx hb dX7_rank_39 (by decide) (fun c_39p-1p0p1p3p10p11p13p20p21p23p30p31p33p36p37 => ?_) (fun c_39p-1p0p1p3p10p11p13p20p21p23p30p31p33p36p37 => ?_)
          · have c_39p-1p0p1p3p10p11p13p20p21p23p30p31p33p36p37 : x0 = 18 := c_39p-1p0p1p3p10p11p13p20p21p23p30p31p33p36p37
            have f_48p-1p0p1p3p10p11p13p20p21p23p30p31p33p36p37_1 : iR x0 18 18 := iR_eqL c_39p-1p0p1p3p10p11p13p20p21p23p30p31p33p36p37 (iR_top _) (iR_c (n := 18) (a := 18) (b := 18) (by decide +kernel) (by decide +kernel)) (by decide +kernel)
            refine lv_iconst (v := 4) hx hb dX7_rank_48 (by decide +kernel) ?_
            refine lv_goto (tgt := 70) hx hb dX7_rank_49 (by decide) ?_
            exact k_ri B hP hD hS dX7_rank_70 () [] rfl rfl rfl (Nat.le_of_ble_eq_true rfl) (Nat.le_of_ble_eq_true rfl) ⟨(show iR 4 1 6 from (iR_c (n := 4) (a := 1) (b := 6) (by decide +kernel) (by decide +kernel))), (show (4 : Int32).toInt = rkz x0.toInt from (by have r0 : ¬ x0.toInt = 21 := i_ti_ne rfl (by decide) c_3p-1p0p1; have r1 : ¬ x0.toInt = 20 := i_ti_ne rfl (by decide) c_13p-1p0p1p3p10p11; have r2 : ¬ x0.toInt = 22 := i_ti_ne rfl (by decide) c_23p-1p0p1p3p10p11p13p20p21; have r3 : ¬ x0.toInt = 17 := i_ti_ne rfl (by decide) c_33p-1p0p1p3p10p11p13p20p21p23p30p31; have r4 : x0.toInt = 18 := i_ti_eq rfl (by decide) c_39p-1p0p1p3p10p11p13p20p21p23p30p31p33p36p37; show ((4 : Int32).toInt) = rkz x0.toInt; unfold rkz; (repeat' split) <;> first | rfl | (exfalso; omega) | decide))⟩
          · have c_39p-1p0p1p3p10p11p13p20p21p23p30p31p33p36p37 : ¬ x0 = 18 := c_39p-1p0p1p3p10p11p13p20p21p23p30p31p33p36p37
            refine lv_iload_n hx hb dX7_rank_42 rfl (lv_at hl 0 rfl) ?_
            refine lv_bipush (v := 19) hx hb dX7_rank_43 (by decide +kernel) ?_
            refine lv_icmp_ne (tgt := 52) hx hb dX7_rank_45 (by decide) (fun c_45p-1p0p1p3p10p11p13p20p21p23p30p31p33p36p37p39p42p43 => ?_) (fun c_45p-1p0p1p3p10p11p13p20p21p23p30p31p33p36p37p39p42p43 => ?_)
            · have c_45p-1p0p1p3p10p11p13p20p21p23p30p31p33p36p37p39p42p43 : ¬ x0 = 19 := c_45p-1p0p1p3p10p11p13p20p21p23p30p31p33p36p37p39p42p43
              refine lv_iload_n hx hb dX7_rank_52 rfl (lv_at hl 0 rfl) ?_
              refine lv_bipush (v := 10) hx hb dX7_rank_53 (by decide +kernel) ?_
              refine lv_icmp_eq (tgt := 64) hx hb dX7_rank_55 (by decide) (fun c_55p-1p0p1p3p10p11p13p20p21p23p30p31p33p36p37p39p42p43p45p52p53 => ?_) (fun c_55p-1p0p1p3p10p11p13p20p21p23p30p31p33p36p37p39p42p43p45p52p53 => ?_)
              · have c_55p-1p0p1p3p10p11p13p20p21p23p30p31p33p36p37p39p42p43p45p52p53 : x0 = 10 := c_55p-1p0p1p3p10p11p13p20p21p23p30p31p33p36p37p39p42p43p45p52p53
                have f_64p-1p0p1p3p10p11p13p20p21p23p30p31p33p36p37p39p42p43p45p52p53_1 : iR x0 10 10 := iR_eqL c_55p-1p0p1p3p10p11p13p20p21p23p30p31p33p36p37p39p42p43p45p52p53 (iR_top _) (iR_c (n := 10) (a := 10) (b := 10) (by decide +kernel) (by decide +kernel)) (by decide +kernel)
                refine lv_iconst (v := 5) hx hb dX7_rank_64 (by decide +kernel) ?_
                refine lv_goto (tgt := 70) hx hb dX7_rank_65 (by decide) ?_
                exact k_ri B hP hD hS dX7_rank_70 () [] rfl rfl rfl (Nat.le_of_ble_eq_true rfl) (Nat.le_of_ble_eq_true rfl) ⟨(show iR 5 1 6 from (iR_c (n := 5) (a := 1) (b := 6) (by decide +kernel) (by decide +kernel))), (show (5 : Int32).toInt = rkz x0.toInt from (by have r0 : ¬ x0.toInt = 21 := i_ti_ne rfl (by decide) c_3p-1p0p1; have r1 : ¬ x0.toInt = 20 := i_ti_ne rfl (by decide) c_13p-1p0p1p3p10p11; have r2 : ¬ x0.toInt = 22 := i_ti_ne rfl (by decide) c_23p-1p0p1p3p10p11p13p20p21; have r3 : ¬ x0.toInt = 17 := i_ti_ne rfl (by decide) c_33p-1p0p1p3p10p11p13p20p21p23p30p31; have r4 : ¬ x0.toInt = 18 := i_ti_ne rfl (by decide) c_39p-1p0p1p3p10p11p13p20p21p23p30p31p33p36p37; have r5 : ¬ x0.toInt = 19 := i_ti_ne rfl (by decide) c_45p-1p0p1p3p10p11p13p20p21p23p30p31p33p36p37p39p42p43; have r6 : x0.toInt = 10 := i_ti_eq rfl (by decide) c_55p-1p0p1p3p10p11p13p20p21p23p30p31p33p36p37p39p42p43p45p52p53; show ((5 : Int32).toInt) = rkz x0.toInt; unfold rkz; (repeat' split) <;> first | rfl | (exfalso; omega) | decide))⟩
              · have c_55p-1p0p1p3p10p11p13p20p21p23p30p31p33p36p37p39p42p43p45p52p53 : ¬ x0 = 10 := c_55p-1p0p1p3p10p11p13p20p21p23p30p31p33p36p37p39p42p43p45p52p53
                refine lv_iload_n hx hb dX7_rank_58 rfl (lv_at hl 0 rfl) ?_
                refine lv_bipush (v := 11) hx hb dX7_rank_59 (by decide +kernel) ?_
                refine lv_icmp_ne (tgt := 68) hx hb dX7_rank_61 (by decide) (fun c_61p-1p0p1p3p10p11p13p20p21p23p30p31p33p36p37p39p42p43p45p52p53p55p58p59 => ?_) (fun c_61p-1p0p1p3p10p11p13p20p21p23p30p31p33p36p37p39p42p43p45p52p53p55p58p59 => ?_)
                · have c_61p-1p0p1p3p10p11p13p20p21p23p30p31p33p36p37p39p42p43p45p52p53p55p58p59 : ¬ x0 = 11 := c_61p-1p0p1p3p10p11p13p20p21p23p30p31p33p36p37p39p42p43p45p52p53p55p58p59
                  refine lv_bipush (v := 6) hx hb dX7_rank_68 (by decide +kernel) ?_
                  exact k_ri B hP hD hS dX7_rank_70 () [] rfl rfl rfl (Nat.le_of_ble_eq_true rfl) (Nat.le_of_ble_eq_true rfl) ⟨(show iR 6 1 6 from (iR_c (n := 6) (a := 1) (b := 6) (by decide +kernel) (by decide +kernel))), (show (6 : Int32).toInt = rkz x0.toInt from (by have r0 : ¬ x0.toInt = 21 := i_ti_ne rfl (by decide) c_3p-1p0p1; have r1 : ¬ x0.toInt = 20 := i_ti_ne rfl (by decide) c_13p-1p0p1p3p10p11; have r2 : ¬ x0.toInt = 22 := i_ti_ne rfl (by decide) c_23p-1p0p1p3p10p11p13p20p21; have r3 : ¬ x0.toInt = 17 := i_ti_ne rfl (by decide) c_33p-1p0p1p3p10p11p13p20p21p23p30p31; have r4 : ¬ x0.toInt = 18 := i_ti_ne rfl (by decide) c_39p-1p0p1p3p10p11p13p20p21p23p30p31p33p36p37; have r5 : ¬ x0.toInt = 19 := i_ti_ne rfl (by decide) c_45p-1p0p1p3p10p11p13p20p21p23p30p31p33p36p37p39p42p43; have r6 : ¬ x0.toInt = 10 := i_ti_ne rfl (by decide) c_55p-1p0p1p3p10p11p13p20p21p23p30p31p33p36p37p39p42p43p45p52p53; have r7 : ¬ x0.toInt = 11 := i_ti_ne rfl (by decide) c_61p-1p0p1p3p10p11p13p20p21p23p30p31p33p36p37p39p42p43p45p52p53p55p58p59; show ((6 : Int32).toInt) = rkz x0.toInt; unfold rkz; (repeat' split) <;> first | rfl | (exfalso; omega) | decide))⟩
                · have c_61p-1p0p1p3p10p11p13p20p21p23p30p31p33p36p37p39p42p43p45p52p53p55p58p59 : x0 = 11 := c_61p-1p0p1p3p10p11p13p20p21p23p30p31p33p36p37p39p42p43p45p52p53p55p58p59
                  have f_64p-1p0p1p3p10p11p13p20p21p23p30p31p33p36p37p39p42p43p45p52p53p55p58p59_1 : iR x0 11 11 := iR_eqL c_61p-1p0p1p3p10p11p13p20p21p23p30p31p33p36p37p39p42p43p45p52p53p55p58p59 (iR_top _) (iR_c (n := 11) (a := 11) (b := 11) (by decide +kernel) (by decide +kernel)) (by decide +kernel)
                  refine lv_iconst (v := 5) hx hb dX7_rank_64 (by decide +kernel) ?_
                  refine lv_goto (tgt := 70) hx hb dX7_rank_65 (by decide) ?_
                  exact k_ri B hP hD hS dX7_rank_70 () [] rfl rfl rfl (Nat.le_of_ble_eq_true rfl) (Nat.le_of_ble_eq_true rfl) ⟨(show iR 5 1 6 from (iR_c (n := 5) (a := 1) (b := 6) (by decide +kernel) (by decide +kernel))), (show (5 : Int32).toInt = rkz x0.toInt from (by have r0 : ¬ x0.toInt = 21 := i_ti_ne rfl (by decide) c_3p-1p0p1; have r1 : ¬ x0.toInt = 20 := i_ti_ne rfl (by decide) c_13p-1p0p1p3p10p11; have r2 : ¬ x0.toInt = 22 := i_ti_ne rfl (by decide) c_23p-1p0p1p3p10p11p13p20p21; have r3 : ¬ x0.toInt = 17 := i_ti_ne rfl (by decide) c_33p-1p0p1p3p10p11p13p20p21p23p30p31; have r4 : ¬ x0.toInt = 18 := i_ti_ne rfl (by decide) c_39p-1p0p1p3p10p11p13p20p21p23p30p31p33p36p37; have r5 : ¬ x0.toInt = 19 := i_ti_ne rfl (by decide) c_45p-1p0p1p3p10p11p13p20p21p23p30p31p33p36p37p39p42p43; have r6 : ¬ x0.toInt = 10 := i_ti_ne rfl (by decide) c_55p-1p0p1p3p10p11p13p20p21p23p30p31p33p36p37p39p42p43p45p52p53; have r7 : x0.toInt = 11 := i_ti_eq rfl (by decide) c_61p-1p0p1p3p10p11p13p20p21p23p30p31p33p36p37p39p42p43p45p52p53p55p58p59; show ((5 : Int32).toInt) = rkz x0.toInt; unfold rkz; (repeat' split) <;> first | rfl | (exfalso; omega) | decide))⟩
            · have c_45p-1p0p1p3p10p11p13p20p21p23p30p31p33p36p37p39p42p43 : x0 = 19 := c_45p-1p0p1p3p10p11p13p20p21p23p30p31p33p36p37p39p42p43
              have f_48p-1p0p1p3p10p11p13p20p21p23p30p31p33p36p37p39p42p43_1 : iR x0 19 19 := iR_eqL c_45p-1p0p1p3p10p11p13p20p21p23p30p31p33p36p37p39p42p43 (iR_top _) (iR_c (n := 19) (a := 19) (b := 19) (by decide +kernel) (by decide +kernel)) (by decide +kernel)
              refine lv_iconst (v := 4) hx hb dX7_rank_48 (by decide +kernel) ?_
              refine lv_goto (tgt := 70) hx hb dX7_rank_49 (by decide) ?_
              exact k_ri B hP hD hS dX7_rank_70 () [] rfl rfl rfl (Nat.le_of_ble_eq_true rfl) (Nat.le_of_ble_eq_true rfl) ⟨(show iR 4 1 6 from (iR_c (n := 4) (a := 1) (b := 6) (by decide +kernel) (by decide +kernel))), (show (4 : Int32).toInt = rkz x0.toInt from (by have r0 : ¬ x0.toInt = 21 := i_ti_ne rfl (by decide) c_3p-1p0p1; have r1 : ¬ x0.toInt = 20 := i_ti_ne rfl (by decide) c_13p-1p0p1p3p10p11; have r2 : ¬ x0.toInt = 22 := i_ti_ne rfl (by decide) c_23p-1p0p1p3p10p11p13p20p21; have r3 : ¬ x0.toInt = 17 := i_ti_ne rfl (by decide) c_33p-1p0p1p3p10p11p13p20p21p23p30p31; have r4 : ¬ x0.toInt = 18 := i_ti_ne rfl (by decide) c_39p-1p0p1p3p10p11p13p20p21p23p30p31p33p36p37; have r5 : x0.toInt = 19 := i_ti_eq rfl (by decide) c_45p-1p0p1p3p10p11p13p20p21p23p30p31p33p36p37p39p42p43; show ((4 : Int32).toInt) = rkz x0.toInt; unfold rkz; (repeat' split) <;> first | rfl | (exfalso; omega) | decide))⟩
      · have c_23p-1p0p1p3p10p11p13p20p21 : x0 = 22 := c_23p-1p0p1p3p10p11p13p20p21
        have f_26p-1p0p1p3p10p11p13p20p21_1 : iR x0 22 22 := iR_eqL c_23p-1p0p1p3p10p11p13p20p21 (iR_top _) (iR_c (n := 22) (a := 22) (b := 22) (by decide +kernel) (by decide +kernel)) (by decide +kernel)
        refine lv_iconst (v := 3) hx hb dX7_rank_26 (by decide +kernel) ?_
        refine lv_goto (tgt := 70) hx hb dX7_rank_27 (by decide) ?_
        exact k_ri B hP hD hS dX7_rank_70 () [] rfl rfl rfl (Nat.le_of_ble_eq_true rfl) (Nat.le_of_ble_eq_true rfl) ⟨(show iR 3 1 6 from (iR_c (n := 3) (a := 1) (b := 6) (by decide +kernel) (by decide +kernel))), (show (3 : Int32).toInt = rkz x0.toInt from (by have r0 : ¬ x0.toInt = 21 := i_ti_ne rfl (by decide) c_3p-1p0p1; have r1 : ¬ x0.toInt = 20 := i_ti_ne rfl (by decide) c_13p-1p0p1p3p10p11; have r2 : x0.toInt = 22 := i_ti_eq rfl (by decide) c_23p-1p0p1p3p10p11p13p20p21; show ((3 : Int32).toInt) = rkz x0.toInt; unfold rkz; (repeat' split) <;> first | rfl | (exfalso; omega) | decide))⟩
    · have c_13p-1p0p1p3p10p11 : x0 = 20 := c_13p-1p0p1p3p10p11
      have f_16p-1p0p1p3p10p11_1 : iR x0 20 20 := iR_eqL c_13p-1p0p1p3p10p11 (iR_top _) (iR_c (n := 20) (a := 20) (b := 20) (by decide +kernel) (by decide +kernel)) (by decide +kernel)
      refine lv_iconst (v := 2) hx hb dX7_rank_16 (by decide +kernel) ?_
      refine lv_goto (tgt := 70) hx hb dX7_rank_17 (by decide) ?_
      exact k_ri B hP hD hS dX7_rank_70 () [] rfl rfl rfl (Nat.le_of_ble_eq_true rfl) (Nat.le_of_ble_eq_true rfl) ⟨(show iR 2 1 6 from (iR_c (n := 2) (a := 1) (b := 6) (by decide +kernel) (by decide +kernel))), (show (2 : Int32).toInt = rkz x0.toInt from (by have r0 : ¬ x0.toInt = 21 := i_ti_ne rfl (by decide) c_3p-1p0p1; have r1 : x0.toInt = 20 := i_ti_eq rfl (by decide) c_13p-1p0p1p3p10p11; show ((2 : Int32).toInt) = rkz x0.toInt; unfold rkz; (repeat' split) <;> first | rfl | (exfalso; omega) | decide))⟩
  · have c_3p-1p0p1 : x0 = 21 := c_3p-1p0p1
    have f_6p-1p0p1_1 : iR x0 21 21 := iR_eqL c_3p-1p0p1 (iR_top _) (iR_c (n := 21) (a := 21) (b := 21) (by decide +kernel) (by decide +kernel)) (by decide +kernel)
    refine lv_iconst (v := 1) hx hb dX7_rank_6 (by decide +kernel) ?_
    refine lv_goto (tgt := 70) hx hb dX7_rank_7 (by decide) ?_
    exact k_ri B hP hD hS dX7_rank_70 () [] rfl rfl rfl (Nat.le_of_ble_eq_true rfl) (Nat.le_of_ble_eq_true rfl) ⟨(show iR 1 1 6 from (iR_c (n := 1) (a := 1) (b := 6) (by decide +kernel) (by decide +kernel))), (show (1 : Int32).toInt = rkz x0.toInt from (by have r0 : x0.toInt = 21 := i_ti_eq rfl (by decide) c_3p-1p0p1; show ((1 : Int32).toInt) = rkz x0.toInt; unfold rkz; (repeat' split) <;> first | rfl | (exfalso; omega) | decide))⟩
set_option maxHeartbeats 8000000 in
set_option maxRecDepth 100000 in
theorem s_X7_add_v2 (l : Launch) (dC : Nat → ClassId) (dI : Nat → Nat → Nat) (cI cJ cZ cM : ClassId) (h : Nat) (r : Nat → Nat) (i : Nat → Int32) (j : Nat → Int64) (x1 : Int32) (x2 : Int32) (f32 : Nat → Int32) (f33 : Nat → Int32) (hm36 : iR (i 36) 0 1599) (hI : mR i) : k_Mv l yX7_add wsX7_add ({ frames := 1, cells := 0, slots := 0, locals := 40 }) (dC, dI) vwCl (tyy cI cJ cZ cM) [(h, .inr (7, oM r i j)), ((r 32), .inl (cI, 3200, .inl f32)), ((r 33), .inl (cI, 3200, .inl f33))] [.ref h, .int x1, .int x2] 0 0 (fun (u9 : SU) => [(h, .inr (7, oM r (upd i 36 (u9.1 0)) j)), ((r 32), .inl (cI, 3200, .inl (u9.2.2.1 0))), ((r 33), .inl (cI, 3200, .inl (u9.2.2.1 1)))]) (fun (u9 : SU) => (iR (u9.1 0) 1 1600) ∧ ((u9.2.2.1 0) = upd f32 (1600 * (i 37).toInt.toNat + (i 36).toInt.toNat) x1) ∧ ((u9.1 0).toInt = (i 36).toInt + 1) ∧ (FRw 1600 (u9.2.2.1 0) f32 (i 37).toInt.toNat)) := by
  refine fun sz => k_enter (cc := cX7_add) (maxL := 3) (ret := none) (Qc := fun A => va_Qv (fun (u9 : SU) => (iR (u9.1 0) 1 1600) ∧ ((u9.2.2.1 0) = upd f32 (1600 * (i 37).toInt.toNat + (i 36).toInt.toNat) x1) ∧ ((u9.1 0).toInt = (i 36).toInt + 1) ∧ (FRw 1600 (u9.2.2.1 0) f32 (i 37).toInt.toNat)) (fun u => k_B (dC, dI) vwCl (tyy cI cJ cZ cM) A ((fun (u9 : SU) => [(h, .inr (7, oM r (upd i 36 (u9.1 0)) j)), ((r 32), .inl (cI, 3200, .inl (u9.2.2.1 0))), ((r 33), .inl (cI, 3200, .inl (u9.2.2.1 1)))]) u)) A) sz (by decide +kernel) rfl (Nat.le_of_ble_eq_true rfl) (fun p e s m args below meth c A ls H locs B hP hD hS hl => ?_)
  obtain ⟨hx, hb, hml, hown, hts, hr, hlk, hnm, hK, hA, hN, hC⟩ := id B
  have hown : s.vm.findClass RX7 = some m.cls := hown
  have hl : lv_has ls 3 [(0, .ref h), (1, .int x1), (2, .int x2)] := hl
  have w_0 : (Cond.fieldLink RX7 108 "WishSeaModel" "codeSort" "[I").before args s = true := hts _ (List.mem_of_getElem? (i := 1) rfl)
  have w_1 : (Cond.fieldLink RX7 124 "WishSeaModel" "in" "I").before args s = true := hts _ (List.mem_of_getElem? (i := 2) rfl)
  have w_2 : (Cond.fieldLink RX7 121 "WishSeaModel" "codes" "I").before args s = true := hts _ (List.mem_of_getElem? (i := 3) rfl)
  have w_3 : (Cond.fieldLink RX7 111 "WishSeaModel" "codeValue" "[I").before args s = true := hts _ (List.mem_of_getElem? (i := 4) rfl)
  have hinX7 : ∀ w ∈ u_ws RX7 TX7 92, w ∈ wsX7_add := fun _ h => List.mem_cons_of_mem _ (List.mem_append_right _ h)
  refine lv_aload_n hx hb dX7_add_0 rfl (lv_at hl 0 rfl) ?_
  refine k_get (D := (dC, dI)) (ci := 7) (v := .ref (r 32)) (C := RX7) (T := TX7) (N := 92) hx hb hts hinX7 hown hK hP 0 rfl rfl 32 (by decide) w_0 rfl rfl dX7_add_1 ?_
  refine lv_sipush (v := 1600) hx hb dX7_add_4 (by decide +kernel) ?_
  refine lv_aload_n hx hb dX7_add_7 rfl (lv_at hl 0 rfl) ?_
  have f_8_1 : iR (i 37) 0 1 := hI 37
  refine k_get (D := (dC, dI)) (ci := 7) (v := .int (i 37)) (C := RX7) (T := TX7) (N := 92) hx hb hts hinX7 hown hK hP 0 rfl rfl 37 (by decide) w_1 rfl rfl dX7_add_8 ?_
  refine lv_imul hx hb dX7_add_11 ?_
  refine lv_topi (fun y_11 ey_11 => ?_)
  have xy_11 : y_11.toInt = 1600 * (i 37).toInt := i_mul ey_11 (iR_c (n := 1600) (a := 1600) (b := 1600) (by decide +kernel) (by decide +kernel)) f_8_1 (by decide +kernel)
  have f_11_2 : iR y_11 0 1600 := iR_mul ey_11 (iR_c (n := 1600) (a := 1600) (b := 1600) (by decide +kernel) (by decide +kernel)) f_8_1 (by decide +kernel)
  refine lv_aload_n hx hb dX7_add_12 rfl (lv_at hl 0 rfl) ?_
  refine k_get (D := (dC, dI)) (ci := 7) (v := .int (i 36)) (C := RX7) (T := TX7) (N := 92) hx hb hts hinX7 hown hK hP 0 rfl rfl 36 (by decide) w_2 rfl rfl dX7_add_13 ?_
  refine lv_iadd hx hb dX7_add_16 ?_
  refine lv_topi (fun y_16 ey_16 => ?_)
  have xy_16 : y_16.toInt = y_11.toInt + (i 36).toInt := i_add ey_16 f_11_2 hm36 (by decide +kernel)
  have f_16_3 : iR y_16 0 3199 := iR_add ey_16 f_11_2 hm36 (by decide +kernel)
  refine lv_iload_n hx hb dX7_add_17 rfl (lv_at hl 1 rfl) ?_
  refine s_iast (g := (upd f32 y_16.toNatClampNeg x1)) (ws' := [(h, .inr (7, oM r i j)), ((r 32), .inl (cI, 3200, .inl (upd f32 y_16.toNatClampNeg x1))), ((r 33), .inl (cI, 3200, .inl f33))]) hx hb hK hP hD hS 1 0 rfl rfl (iR_vp f_16_3 (by decide +kernel)) rfl rfl dX7_add_18 (fun H locs hP hD hS => ?_)
  refine lv_aload_n hx hb dX7_add_19 rfl (lv_at hl 0 rfl) ?_
  refine k_get (D := (dC, dI)) (ci := 7) (v := .ref (r 33)) (C := RX7) (T := TX7) (N := 92) hx hb hts hinX7 hown hK hP 0 rfl rfl 33 (by decide) w_3 rfl rfl dX7_add_20 ?_
  refine lv_sipush (v := 1600) hx hb dX7_add_23 (by decide +kernel) ?_
  refine lv_aload_n hx hb dX7_add_26 rfl (lv_at hl 0 rfl) ?_
  refine k_get (D := (dC, dI)) (ci := 7) (v := .int (i 37)) (C := RX7) (T := TX7) (N := 92) hx hb hts hinX7 hown hK hP 0 rfl rfl 37 (by decide) w_1 rfl rfl dX7_add_27 ?_
  refine lv_imul hx hb dX7_add_30 ?_
  refine lv_topi (fun y_30 ey_30 => ?_)
  have xy_30 : y_30.toInt = 1600 * (i 37).toInt := i_mul ey_30 (iR_c (n := 1600) (a := 1600) (b := 1600) (by decide +kernel) (by decide +kernel)) f_8_1 (by decide +kernel)
  have f_30_4 : iR y_30 0 1600 := iR_mul ey_30 (iR_c (n := 1600) (a := 1600) (b := 1600) (by decide +kernel) (by decide +kernel)) f_8_1 (by decide +kernel)
  refine lv_aload_n hx hb dX7_add_31 rfl (lv_at hl 0 rfl) ?_
  refine k_get (D := (dC, dI)) (ci := 7) (v := .int (i 36)) (C := RX7) (T := TX7) (N := 92) hx hb hts hinX7 hown hK hP 0 rfl rfl 36 (by decide) w_2 rfl rfl dX7_add_32 ?_
  refine lv_iadd hx hb dX7_add_35 ?_
  refine lv_topi (fun y_35 ey_35 => ?_)
  have xy_35 : y_35.toInt = y_30.toInt + (i 36).toInt := i_add ey_35 f_30_4 hm36 (by decide +kernel)
  have f_35_5 : iR y_35 0 3199 := iR_add ey_35 f_30_4 hm36 (by decide +kernel)
  refine lv_iload_n hx hb dX7_add_36 rfl (lv_at hl 2 rfl) ?_
  refine s_iast (g := (upd f33 y_35.toNatClampNeg x2)) (ws' := [(h, .inr (7, oM r i j)), ((r 32), .inl (cI, 3200, .inl (upd f32 y_16.toNatClampNeg x1))), ((r 33), .inl (cI, 3200, .inl (upd f33 y_35.toNatClampNeg x2)))]) hx hb hK hP hD hS 2 0 rfl rfl (iR_vp f_35_5 (by decide +kernel)) rfl rfl dX7_add_37 (fun H locs hP hD hS => ?_)
  refine lv_aload_n hx hb dX7_add_38 rfl (lv_at hl 0 rfl) ?_
  refine lv_dup hx hb dX7_add_39 rfl ?_
  refine k_get (D := (dC, dI)) (ci := 7) (v := .int (i 36)) (C := RX7) (T := TX7) (N := 92) hx hb hts hinX7 hown hK hP 0 rfl rfl 36 (by decide) w_2 rfl rfl dX7_add_40 ?_
  refine lv_iconst (v := 1) hx hb dX7_add_43 (by decide +kernel) ?_
  refine lv_iadd hx hb dX7_add_44 ?_
  refine lv_topi (fun y_44 ey_44 => ?_)
  have xy_44 : y_44.toInt = (i 36).toInt + 1 := i_add ey_44 hm36 (iR_c (n := 1) (a := 1) (b := 1) (by decide +kernel) (by decide +kernel)) (by decide +kernel)
  have f_44_6 : iR y_44 1 1600 := iR_add ey_44 hm36 (iR_c (n := 1) (a := 1) (b := 1) (by decide +kernel) (by decide +kernel)) (by decide +kernel)
  refine k_put (D := (dC, dI)) (ci := 7) (v := .int y_44) (C := RX7) (T := TX7) (N := 92) (ws' := [(h, .inr (7, oM r (upd i 36 y_44) j)), ((r 32), .inl (cI, 3200, .inl (upd f32 y_16.toNatClampNeg x1))), ((r 33), .inl (cI, 3200, .inl (upd f33 y_35.toNatClampNeg x2)))]) hx hb hts hinX7 tyX7 tyX7_ok nmX7 hown hK hP hD hS 0 rfl rfl 36 (by decide) w_2 rfl rfl rfl rfl (Nat.le_of_ble_eq_true rfl) rfl dX7_add_45 (fun H locs hP hD hS => ?_)
  exact k_rv B hP hD hS dX7_add_48 ((fun k9 => match k9 with | 0 => y_44 | _ => 0), (fun _ => 0), (fun k9 => match k9 with | 0 => (upd f32 y_16.toNatClampNeg x1) | 1 => (upd f33 y_35.toNatClampNeg x2) | _ => (fun _ => 0)), (fun _ => (fun _ => 0)), (fun _ => 0)) [0, 1, 2] rfl rfl (Nat.le_of_ble_eq_true rfl) (Nat.le_of_ble_eq_true rfl) ⟨(show iR y_44 1 1600 from f_44_6), (show (upd f32 y_16.toNatClampNeg x1) = upd f32 (1600 * (i 37).toInt.toNat + (i 36).toInt.toNat) x1 from (by have e9 : y_16.toNatClampNeg = 1600 * (i 37).toInt.toNat + (i 36).toInt.toNat := (by have q0 := iR_cn f_16_3 (by decide +kernel); have q1 := iR_cn (hI 36) (by decide); have q2 : 0 ≤ (i 37).toInt ∧ (i 37).toInt ≤ 1 := hI 37; have q3 : 0 ≤ (i 36).toInt ∧ (i 36).toInt ≤ 1600 := hI 36; omega); rw [e9])), (show y_44.toInt = (i 36).toInt + 1 from (by have q0 : 1 ≤ y_44.toInt ∧ y_44.toInt ≤ 1600 := f_44_6; have q1 : 0 ≤ (i 36).toInt ∧ (i 36).toInt ≤ 1599 := hm36; omega)), (show FRw 1600 (upd f32 y_16.toNatClampNeg x1) f32 (i 37).toInt.toNat from (FRw_upd _ (by have q8 := iR_cn f_16_3 (by decide +kernel); have q9 : 0 ≤ (i 37).toInt ∧ (i 37).toInt ≤ 1 := hI 37; have q0 : 0 ≤ y_16.toInt ∧ y_16.toInt ≤ 3199 := f_16_3; have q1 : 0 ≤ y_11.toInt ∧ y_11.toInt ≤ 1600 := f_11_2; have q2 : 0 ≤ (i 36).toInt ∧ (i 36).toInt ≤ 1599 := hm36; have q3 : 0 ≤ (i 37).toInt ∧ (i 37).toInt ≤ 1 := f_8_1; omega) FRw_refl))⟩
set_option maxHeartbeats 8000000 in
set_option maxRecDepth 100000 in
theorem s_X7_joins_v0 (l : Launch) (dC : Nat → ClassId) (dI : Nat → Nat → Nat) (cI cJ cZ cM : ClassId) (h : Nat) (r : Nat → Nat) (i : Nat → Int32) (j : Nat → Int64) (x1 : Int32) (f32 : Nat → Int32) (f33 : Nat → Int32) (f38 : Nat → Int32) (f39 : Nat → Int32) (f40 : Nat → Int32) (f41 : Nat → Int32) (f42 : Nat → Int32) (f45 : Nat → Int32) (c0 : Nat) (hI : mR i) (hf40 : aR f40 0 1) (hpx : PX f38 f39 f40 f41 f42 f45 f32 (i 43).toInt.toNat (i 46).toInt.toNat (i 44).toInt (i 36).toInt.toNat (i 37).toInt.toNat (i 4).toInt 1 c0) : k_Mv l yX7_joins wsX7_joins ({ frames := 2, cells := 0, slots := 0, locals := 62 }) (dC, dI) vwCl (tyy cI cJ cZ cM) [(h, .inr (7, oM r i j)), ((r 32), .inl (cI, 3200, .inl f32)), ((r 33), .inl (cI, 3200, .inl f33)), ((r 42), .inl (cI, 20, .inl f42)), ((r 45), .inl (cI, 500, .inl f45))] [.ref h, .int x1] 0 0 (fun (u9 : SU) => [(h, .inr (7, oM r (upd (upd (upd i 36 (u9.1 0)) 44 (u9.1 1)) 46 (u9.1 2)) j)), ((r 32), .inl (cI, 3200, .inl (u9.2.2.1 0))), ((r 33), .inl (cI, 3200, .inl (u9.2.2.1 1))), ((r 42), .inl (cI, 20, .inl f42)), ((r 45), .inl (cI, 500, .inl f45))]) (fun (u9 : SU) => (iR (u9.1 0) 0 1600) ∧ (iR (u9.1 1) 0 7) ∧ (iR (u9.1 2) 0 47) ∧ (PX f38 f39 f40 f41 f42 f45 (u9.2.2.1 0) (i 43).toInt.toNat (u9.1 2).toInt.toNat (u9.1 1).toInt (u9.1 0).toInt.toNat (i 37).toInt.toNat (i 4).toInt 1 c0) ∧ ((f42 ((i 43).toInt.toNat - 1)).toInt = (u9.1 2).toInt ∨ (1 ≤ (u9.1 2).toInt.toNat ∧ rkz (f45 ((u9.1 2).toInt.toNat - 1)).toInt < x1.toInt)) ∧ (FRw 1600 (u9.2.2.1 0) f32 (i 37).toInt.toNat)) := by
  refine fun sz => k_enter (cc := cX7_joins) (maxL := 2) (ret := none) (Qc := fun A => va_Qv (fun (u9 : SU) => (iR (u9.1 0) 0 1600) ∧ (iR (u9.1 1) 0 7) ∧ (iR (u9.1 2) 0 47) ∧ (PX f38 f39 f40 f41 f42 f45 (u9.2.2.1 0) (i 43).toInt.toNat (u9.1 2).toInt.toNat (u9.1 1).toInt (u9.1 0).toInt.toNat (i 37).toInt.toNat (i 4).toInt 1 c0) ∧ ((f42 ((i 43).toInt.toNat - 1)).toInt = (u9.1 2).toInt ∨ (1 ≤ (u9.1 2).toInt.toNat ∧ rkz (f45 ((u9.1 2).toInt.toNat - 1)).toInt < x1.toInt)) ∧ (FRw 1600 (u9.2.2.1 0) f32 (i 37).toInt.toNat)) (fun u => k_B (dC, dI) vwCl (tyy cI cJ cZ cM) A ((fun (u9 : SU) => [(h, .inr (7, oM r (upd (upd (upd i 36 (u9.1 0)) 44 (u9.1 1)) 46 (u9.1 2)) j)), ((r 32), .inl (cI, 3200, .inl (u9.2.2.1 0))), ((r 33), .inl (cI, 3200, .inl (u9.2.2.1 1))), ((r 42), .inl (cI, 20, .inl f42)), ((r 45), .inl (cI, 500, .inl f45))]) u)) A) sz (by decide +kernel) rfl (Nat.le_of_ble_eq_true rfl) (fun p e s m args below meth c A ls H locs B hP hD hS hl => ?_)
  obtain ⟨hx, hb, hml, hown, hts, hr, hlk, hnm, hK, hA, hN, hC⟩ := id B
  have hown : s.vm.findClass RX7 = some m.cls := hown
  have hl : lv_has ls 2 [(0, .ref h), (1, .int x1)] := hl
  have w_0 : (Cond.fieldLink RX7 152 "WishSeaModel" "opMany" "I").before args s = true := hts _ (List.mem_of_getElem? (i := 1) rfl)
  have w_1 : (Cond.fieldLink RX7 140 "WishSeaModel" "base" "[I").before args s = true := hts _ (List.mem_of_getElem? (i := 2) rfl)
  have w_2 : (Cond.fieldLink RX7 143 "WishSeaModel" "deep" "I").before args s = true := hts _ (List.mem_of_getElem? (i := 3) rfl)
  have w_3 : (Cond.fieldLink RX7 149 "WishSeaModel" "ops" "[I").before args s = true := hts _ (List.mem_of_getElem? (i := 4) rfl)
  have w_4 : (Cond.fieldLink RX7 146 "WishSeaModel" "open" "I").before args s = true := hts _ (List.mem_of_getElem? (i := 5) rfl)
  have hinX7 : ∀ w ∈ u_ws RX7 TX7 92, w ∈ wsX7_joins := fun _ h => List.mem_cons_of_mem _ (List.mem_append_right _ h)
  have J_0 : ∀ (n_0 : Nat) (j0_A1 : Nat → Int32) (j0_A2 : Nat → Int32) (j0_M0_36 : Int32) (j0_M0_44 : Int32) (j0_M0_46 : Int32) (hj0_M0_36 : iR j0_M0_36 0 1600) (hj0_M0_44 : iR j0_M0_44 (-1) 7) (hj0_M0_46 : iR j0_M0_46 0 48) (t0_fr32 : FRw 1600 j0_A1 f32 (i 37).toInt.toNat) (p0_0 : PX f38 f39 f40 f41 f42 f45 j0_A1 (i 43).toInt.toNat j0_M0_46.toInt.toNat j0_M0_44.toInt j0_M0_36.toInt.toNat (i 37).toInt.toNat (i 4).toInt 1 c0) (hm_0 : j0_M0_46.toInt.toNat < n_0) (H : Heap) (locs : List Loc) (ls : Array Slot), va_P (dC, dI) vwCl [(h, .inr (7, oM r (upd (upd (upd i 36 j0_M0_36) 44 j0_M0_44) 46 j0_M0_46) j)), ((r 32), .inl (cI, 3200, .inl j0_A1)), ((r 33), .inl (cI, 3200, .inl j0_A2)), ((r 42), .inl (cI, 20, .inl f42)), ((r 45), .inl (cI, 500, .inl f45))] H → va_D A [(h, .inr (7, oM r (upd (upd (upd i 36 j0_M0_36) 44 j0_M0_44) 46 j0_M0_46) j)), ((r 32), .inl (cI, 3200, .inl j0_A1)), ((r 33), .inl (cI, 3200, .inl j0_A2)), ((r 42), .inl (cI, 20, .inl f42)), ((r 45), .inl (cI, 500, .inl f45))] → va_S A s.heap H locs → lv_has ls 2 [(0, .ref h), (1, .int x1)] → W p l e ({ frames := 2, cells := 0, slots := 0, locals := 62 }) s m args below meth c H locs 0 0 (MQ below (va_Qv (fun (u9 : SU) => (iR (u9.1 0) 0 1600) ∧ (iR (u9.1 1) 0 7) ∧ (iR (u9.1 2) 0 47) ∧ (PX f38 f39 f40 f41 f42 f45 (u9.2.2.1 0) (i 43).toInt.toNat (u9.1 2).toInt.toNat (u9.1 1).toInt (u9.1 0).toInt.toNat (i 37).toInt.toNat (i 4).toInt 1 c0) ∧ ((f42 ((i 43).toInt.toNat - 1)).toInt = (u9.1 2).toInt ∨ (1 ≤ (u9.1 2).toInt.toNat ∧ rkz (f45 ((u9.1 2).toInt.toNat - 1)).toInt < x1.toInt)) ∧ (FRw 1600 (u9.2.2.1 0) f32 (i 37).toInt.toNat)) (fun u => k_B (dC, dI) vwCl (tyy cI cJ cZ cM) A ((fun (u9 : SU) => [(h, .inr (7, oM r (upd (upd (upd i 36 (u9.1 0)) 44 (u9.1 1)) 46 (u9.1 2)) j)), ((r 32), .inl (cI, 3200, .inl (u9.2.2.1 0))), ((r 33), .inl (cI, 3200, .inl (u9.2.2.1 1))), ((r 42), .inl (cI, 20, .inl f42)), ((r 45), .inl (cI, 500, .inl f45))]) u)) A) args s 0 0 A) (F0 m 0 ls []) := by
    intro n_0
    induction n_0 with
    | zero => intro j0_A1 j0_A2 j0_M0_36 j0_M0_44 j0_M0_46 hj0_M0_36 hj0_M0_44 hj0_M0_46 t0_fr32 p0_0 hm_0; exact absurd hm_0 (Nat.not_lt_zero _)
    | succ n_0 ih_0 =>
      intro j0_A1 j0_A2 j0_M0_36 j0_M0_44 j0_M0_46 hj0_M0_36 hj0_M0_44 hj0_M0_46 t0_fr32 p0_0 hm_0 H locs ls hP hD hS hl
      have f_0_1 : iR (i 43) 1 8 := (by have rm := PX_room p0_0; have q1 : 0 ≤ (i 43).toInt ∧ (i 43).toInt ≤ 8 := (show iR (i 43) 0 8 from hI 43); have q2 : 0 ≤ j0_M0_46.toInt ∧ j0_M0_46.toInt ≤ 48 := hj0_M0_46; have q3 : (-1) ≤ j0_M0_44.toInt ∧ j0_M0_44.toInt ≤ 7 := hj0_M0_44; have q4 : 0 ≤ j0_M0_36.toInt ∧ j0_M0_36.toInt ≤ 1600 := hj0_M0_36; show 1 ≤ (i 43).toInt ∧ (i 43).toInt ≤ 8; omega)
      have f_0_2 : iR j0_M0_46 0 47 := (by have rm := PX_room p0_0; have q1 : 0 ≤ (i 43).toInt ∧ (i 43).toInt ≤ 8 := (show iR (i 43) 0 8 from hI 43); have q2 : 0 ≤ j0_M0_46.toInt ∧ j0_M0_46.toInt ≤ 48 := hj0_M0_46; have q3 : (-1) ≤ j0_M0_44.toInt ∧ j0_M0_44.toInt ≤ 7 := hj0_M0_44; have q4 : 0 ≤ j0_M0_36.toInt ∧ j0_M0_36.toInt ≤ 1600 := hj0_M0_36; show 0 ≤ j0_M0_46.toInt ∧ j0_M0_46.toInt ≤ 47; omega)
      have f_0_3 : iR j0_M0_44 0 7 := (by have rm := PX_room p0_0; have q1 : 0 ≤ (i 43).toInt ∧ (i 43).toInt ≤ 8 := (show iR (i 43) 0 8 from hI 43); have q2 : 0 ≤ j0_M0_46.toInt ∧ j0_M0_46.toInt ≤ 48 := hj0_M0_46; have q3 : (-1) ≤ j0_M0_44.toInt ∧ j0_M0_44.toInt ≤ 7 := hj0_M0_44; have q4 : 0 ≤ j0_M0_36.toInt ∧ j0_M0_36.toInt ≤ 1600 := hj0_M0_36; show 0 ≤ j0_M0_44.toInt ∧ j0_M0_44.toInt ≤ 7; omega)
      refine lv_aload_n hx hb dX7_joins_0 rfl (lv_at hl 0 rfl) ?_
      refine k_get (D := (dC, dI)) (ci := 7) (v := .int j0_M0_46) (C := RX7) (T := TX7) (N := 92) hx hb hts hinX7 hown hK hP 0 rfl rfl 46 (by decide) w_0 rfl rfl dX7_joins_1 ?_
      refine lv_aload_n hx hb dX7_joins_4 rfl (lv_at hl 0 rfl) ?_
      refine k_get (D := (dC, dI)) (ci := 7) (v := .ref (r 42)) (C := RX7) (T := TX7) (N := 92) hx hb hts hinX7 hown hK hP 0 rfl rfl 42 (by decide) w_1 rfl rfl dX7_joins_5 ?_
      refine lv_aload_n hx hb dX7_joins_8 rfl (lv_at hl 0 rfl) ?_
      refine k_get (D := (dC, dI)) (ci := 7) (v := .int (i 43)) (C := RX7) (T := TX7) (N := 92) hx hb hts hinX7 hown hK hP 0 rfl rfl 43 (by decide) w_2 rfl rfl dX7_joins_9 ?_
      refine lv_iconst (v := 1) hx hb dX7_joins_12 (by decide +kernel) ?_
      refine lv_isub hx hb dX7_joins_13 ?_
      refine lv_topi (fun y_13 ey_13 => ?_)
      have xy_13 : y_13.toInt = (i 43).toInt - 1 := i_sub ey_13 f_0_1 (iR_c (n := 1) (a := 1) (b := 1) (by decide +kernel) (by decide +kernel)) (by decide +kernel)
      have f_13_4 : iR y_13 0 7 := iR_sub ey_13 f_0_1 (iR_c (n := 1) (a := 1) (b := 1) (by decide +kernel) (by decide +kernel)) (by decide +kernel)
      refine va_iald hx hb hK hP 3 0 rfl rfl (iR_vp f_13_4 (by decide +kernel)) dX7_joins_14 ?_
      have f_15_5 : iR (f42 y_13.toNatClampNeg) 0 47 := (by have rm := PX_room p0_0; have ei : y_13.toNatClampNeg = (i 43).toInt.toNat - 1 := (by have q0 := iR_cn f_13_4 (by decide +kernel); have q1 : 1 ≤ (i 43).toInt ∧ (i 43).toInt ≤ 8 := f_0_1; omega); rw [← ei] at rm; have q2 : 0 ≤ j0_M0_46.toInt ∧ j0_M0_46.toInt ≤ 47 := f_0_2; show 0 ≤ (f42 y_13.toNatClampNeg).toInt ∧ (f42 y_13.toNatClampNeg).toInt ≤ 47; omega)
      refine lv_icmp_le (tgt := 87) hx hb dX7_joins_15 (by decide) (fun c_15 => ?_) (fun c_15 => ?_)
      · have c_15 : j0_M0_46 ≤ (f42 y_13.toNatClampNeg) := c_15
        exact k_rv B hP hD hS dX7_joins_87 ((fun k9 => match k9 with | 0 => j0_M0_36 | 1 => j0_M0_44 | 2 => j0_M0_46 | _ => 0), (fun _ => 0), (fun k9 => match k9 with | 0 => j0_A1 | 1 => j0_A2 | _ => (fun _ => 0)), (fun _ => (fun _ => 0)), (fun _ => 0)) [0, 1, 2, 3, 4] rfl rfl (Nat.le_of_ble_eq_true rfl) (Nat.le_of_ble_eq_true rfl) ⟨(show iR j0_M0_36 0 1600 from hj0_M0_36), (show iR j0_M0_44 0 7 from f_0_3), (show iR j0_M0_46 0 47 from f_0_2), (show PX f38 f39 f40 f41 f42 f45 j0_A1 (i 43).toInt.toNat j0_M0_46.toInt.toNat j0_M0_44.toInt j0_M0_36.toInt.toNat (i 37).toInt.toNat (i 4).toInt 1 c0 from p0_0), (show (f42 ((i 43).toInt.toNat - 1)).toInt = j0_M0_46.toInt ∨ (1 ≤ j0_M0_46.toInt.toNat ∧ rkz (f45 (j0_M0_46.toInt.toNat - 1)).toInt < x1.toInt) from (Or.inl (by have rm := PX_room p0_0; have ei : y_13.toNatClampNeg = (i 43).toInt.toNat - 1 := (by have q0 := iR_cn f_13_4 (by decide +kernel); have q1 : 1 ≤ (i 43).toInt ∧ (i 43).toInt ≤ 8 := f_0_1; omega); rw [← ei] at rm ⊢; have r1 := i_ti_le rfl rfl c_15; have q2 : 0 ≤ j0_M0_46.toInt ∧ j0_M0_46.toInt ≤ 47 := f_0_2; omega))), (show FRw 1600 j0_A1 f32 (i 37).toInt.toNat from t0_fr32)⟩
      · have c_15 : (f42 y_13.toNatClampNeg) < j0_M0_46 := i_nle c_15
        have f_18_6 : iR (f42 y_13.toNatClampNeg) 0 46 := iR_ltL c_15 f_15_5 f_0_2 (by decide +kernel)
        have f_18_7 : iR j0_M0_46 1 47 := iR_ltR c_15 f_15_5 f_0_2 (by decide +kernel)
        refine lv_aload_n hx hb dX7_joins_18 rfl (lv_at hl 0 rfl) ?_
        refine k_get (D := (dC, dI)) (ci := 7) (v := .ref (r 45)) (C := RX7) (T := TX7) (N := 92) hx hb hts hinX7 hown hK hP 0 rfl rfl 45 (by decide) w_3 rfl rfl dX7_joins_19 ?_
        refine lv_aload_n hx hb dX7_joins_22 rfl (lv_at hl 0 rfl) ?_
        refine k_get (D := (dC, dI)) (ci := 7) (v := .int j0_M0_46) (C := RX7) (T := TX7) (N := 92) hx hb hts hinX7 hown hK hP 0 rfl rfl 46 (by decide) w_0 rfl rfl dX7_joins_23 ?_
        refine lv_iconst (v := 1) hx hb dX7_joins_26 (by decide +kernel) ?_
        refine lv_isub hx hb dX7_joins_27 ?_
        refine lv_topi (fun y_27 ey_27 => ?_)
        have xy_27 : y_27.toInt = j0_M0_46.toInt - 1 := i_sub ey_27 f_18_7 (iR_c (n := 1) (a := 1) (b := 1) (by decide +kernel) (by decide +kernel)) (by decide +kernel)
        have f_27_8 : iR y_27 0 46 := iR_sub ey_27 f_18_7 (iR_c (n := 1) (a := 1) (b := 1) (by decide +kernel) (by decide +kernel)) (by decide +kernel)
        refine va_iald hx hb hK hP 4 0 rfl rfl (iR_vp f_27_8 (by decide +kernel)) dX7_joins_28 ?_
        refine k_ci (wc := []) (wr := [(h, .inr (7, oM r (upd (upd (upd i 36 j0_M0_36) 44 j0_M0_44) 46 j0_M0_46) j)), ((r 32), .inl (cI, 3200, .inl j0_A1)), ((r 33), .inl (cI, 3200, .inl j0_A2)), ((r 42), .inl (cI, 20, .inl f42)), ((r 45), .inl (cI, 500, .inl f45))]) (fun hPc hDc hFc => va_runS (As := [.int (f45 y_27.toNatClampNeg)]) (rest := []) ⟨hx, hb, hml, hown, hts⟩ (s_X7_rank_v0 l dC dI cI cJ cZ cM (f45 y_27.toNatClampNeg) H.size) (va_cwS 1 hts gX7_joins_X7_rank rfl rfl rfl (by decide +kernel) ⟨(Nat.le_of_ble_eq_true rfl), (Nat.le_of_ble_eq_true rfl)⟩) (k_pS hPc hDc hK hN hC hS hFc) rfl rfl hl.1 rfl (lv_room (Nat.le_of_ble_eq_true rfl)) dX7_joins_29 ⟨(Nat.le_of_ble_eq_true rfl), (Nat.le_of_ble_eq_true rfl)⟩) hP hD hS hA [] [0, 1, 2, 3, 4] rfl rfl rfl rfl (by decide) (fun _ => rfl) 0 0 rfl rfl (fun r_29 u_29 H locs hw hP hD hS => ?_)
        obtain ⟨g_29_0, g_29_1⟩ := hw
        have hP : va_P (dC, dI) vwCl [(h, .inr (7, oM r (upd (upd (upd i 36 j0_M0_36) 44 j0_M0_44) 46 j0_M0_46) j)), ((r 32), .inl (cI, 3200, .inl j0_A1)), ((r 33), .inl (cI, 3200, .inl j0_A2)), ((r 42), .inl (cI, 20, .inl f42)), ((r 45), .inl (cI, 500, .inl f45))] H := hP
        have hD : va_D A [(h, .inr (7, oM r (upd (upd (upd i 36 j0_M0_36) 44 j0_M0_44) 46 j0_M0_46) j)), ((r 32), .inl (cI, 3200, .inl j0_A1)), ((r 33), .inl (cI, 3200, .inl j0_A2)), ((r 42), .inl (cI, 20, .inl f42)), ((r 45), .inl (cI, 500, .inl f45))] := hD
        have g_29_1 : r_29.toInt = rkz (f45 y_27.toNatClampNeg).toInt := g_29_1
        refine lv_iload_n hx hb dX7_joins_32 rfl (lv_at hl 1 rfl) ?_
        refine lv_icmp_lt (tgt := 87) hx hb dX7_joins_33 (by decide) (fun c_33 => ?_) (fun c_33 => ?_)
        · have c_33 : r_29 < x1 := c_33
          have f_87_9 : iR x1 2 2147483647 := iR_ltR c_33 g_29_0 (iR_top _) (by decide +kernel)
          exact k_rv B hP hD hS dX7_joins_87 ((fun k9 => match k9 with | 0 => j0_M0_36 | 1 => j0_M0_44 | 2 => j0_M0_46 | _ => 0), (fun _ => 0), (fun k9 => match k9 with | 0 => j0_A1 | 1 => j0_A2 | _ => (fun _ => 0)), (fun _ => (fun _ => 0)), (fun _ => 0)) [0, 1, 2, 3, 4] rfl rfl (Nat.le_of_ble_eq_true rfl) (Nat.le_of_ble_eq_true rfl) ⟨(show iR j0_M0_36 0 1600 from hj0_M0_36), (show iR j0_M0_44 0 7 from f_0_3), (show iR j0_M0_46 0 47 from (iR_w f_18_7 (by decide +kernel))), (show PX f38 f39 f40 f41 f42 f45 j0_A1 (i 43).toInt.toNat j0_M0_46.toInt.toNat j0_M0_44.toInt j0_M0_36.toInt.toNat (i 37).toInt.toNat (i 4).toInt 1 c0 from p0_0), (show (f42 ((i 43).toInt.toNat - 1)).toInt = j0_M0_46.toInt ∨ (1 ≤ j0_M0_46.toInt.toNat ∧ rkz (f45 (j0_M0_46.toInt.toNat - 1)).toInt < x1.toInt) from (Or.inr (by have ey : y_27.toNatClampNeg = j0_M0_46.toInt.toNat - 1 := (by have q0 := iR_cn f_27_8 (by decide +kernel); have q2 : 1 ≤ j0_M0_46.toInt ∧ j0_M0_46.toInt ≤ 47 := f_18_7; omega); rw [← ey, ← g_29_1]; have r1 := i_ti_lt rfl rfl c_33; have q2 : 1 ≤ j0_M0_46.toInt ∧ j0_M0_46.toInt ≤ 47 := f_18_7; omega))), (show FRw 1600 j0_A1 f32 (i 37).toInt.toNat from t0_fr32)⟩
        · have c_33 : x1 ≤ r_29 := i_nlt c_33
          have f_36_9 : iR x1 (-2147483648) 6 := iR_leL c_33 (iR_top _) g_29_0 (by decide +kernel)
          have f_36_10 : iR j0_M0_36 0 1599 := (by have rm := PX_room p0_0; have q2 : 1 ≤ j0_M0_46.toInt ∧ j0_M0_46.toInt ≤ 47 := f_18_7; have q4 : 0 ≤ j0_M0_36.toInt ∧ j0_M0_36.toInt ≤ 1600 := hj0_M0_36; show 0 ≤ j0_M0_36.toInt ∧ j0_M0_36.toInt ≤ 1599; omega)
          refine lv_aload_n hx hb dX7_joins_36 rfl (lv_at hl 0 rfl) ?_
          refine lv_dup hx hb dX7_joins_37 rfl ?_
          refine k_get (D := (dC, dI)) (ci := 7) (v := .int j0_M0_46) (C := RX7) (T := TX7) (N := 92) hx hb hts hinX7 hown hK hP 0 rfl rfl 46 (by decide) w_0 rfl rfl dX7_joins_38 ?_
          refine lv_iconst (v := 1) hx hb dX7_joins_41 (by decide +kernel) ?_
          refine lv_isub hx hb dX7_joins_42 ?_
          refine lv_topi (fun y_42 ey_42 => ?_)
          have xy_42 : y_42.toInt = j0_M0_46.toInt - 1 := i_sub ey_42 f_18_7 (iR_c (n := 1) (a := 1) (b := 1) (by decide +kernel) (by decide +kernel)) (by decide +kernel)
          have f_42_11 : iR y_42 0 46 := iR_sub ey_42 f_18_7 (iR_c (n := 1) (a := 1) (b := 1) (by decide +kernel) (by decide +kernel)) (by decide +kernel)
          refine k_put (D := (dC, dI)) (ci := 7) (v := .int y_42) (C := RX7) (T := TX7) (N := 92) (ws' := [(h, .inr (7, oM r (upd (upd (upd i 36 j0_M0_36) 44 j0_M0_44) 46 y_42) j)), ((r 32), .inl (cI, 3200, .inl j0_A1)), ((r 33), .inl (cI, 3200, .inl j0_A2)), ((r 42), .inl (cI, 20, .inl f42)), ((r 45), .inl (cI, 500, .inl f45))]) hx hb hts hinX7 tyX7 tyX7_ok nmX7 hown hK hP hD hS 0 rfl rfl 46 (by decide) w_0 rfl rfl rfl rfl (Nat.le_of_ble_eq_true rfl) rfl dX7_joins_43 (fun H locs hP hD hS => ?_)
          refine lv_aload_n hx hb dX7_joins_46 rfl (lv_at hl 0 rfl) ?_
          refine lv_aload_n hx hb dX7_joins_47 rfl (lv_at hl 0 rfl) ?_
          refine k_get (D := (dC, dI)) (ci := 7) (v := .ref (r 45)) (C := RX7) (T := TX7) (N := 92) hx hb hts hinX7 hown hK hP 0 rfl rfl 45 (by decide) w_3 rfl rfl dX7_joins_48 ?_
          refine lv_aload_n hx hb dX7_joins_51 rfl (lv_at hl 0 rfl) ?_
          refine k_get (D := (dC, dI)) (ci := 7) (v := .int y_42) (C := RX7) (T := TX7) (N := 92) hx hb hts hinX7 hown hK hP 0 rfl rfl 46 (by decide) w_0 rfl rfl dX7_joins_52 ?_
          refine va_iald hx hb hK hP 4 0 rfl rfl (iR_vp f_42_11 (by decide +kernel)) dX7_joins_55 ?_
          refine lv_iconst (v := 0) hx hb dX7_joins_56 (by decide +kernel) ?_
          refine k_cv (wc := [(h, .inr (7, oM r (upd (upd (upd i 36 j0_M0_36) 44 j0_M0_44) 46 y_42) j)), ((r 32), .inl (cI, 3200, .inl j0_A1)), ((r 33), .inl (cI, 3200, .inl j0_A2))]) (wr := [((r 42), .inl (cI, 20, .inl f42)), ((r 45), .inl (cI, 500, .inl f45))]) (fun hPc hDc hFc => va_runV (As := [.int (f45 y_42.toNatClampNeg), .int 0]) (rest := []) ⟨hx, hb, hml, hown, hts⟩ (s_X7_add_v2 l dC dI cI cJ cZ cM h r (upd (upd (upd i 36 j0_M0_36) 44 j0_M0_44) 46 y_42) j (f45 y_42.toNatClampNeg) 0 j0_A1 j0_A2 (show iR j0_M0_36 0 1599 from f_36_10) (mR_upd 46 (mR_upd 44 (mR_upd 36 hI (show iR _ (loI 36) (hiI 36) from (iR_w f_36_10 (by decide +kernel)))) (show iR _ (loI 44) (hiI 44) from f_0_3)) (show iR _ (loI 46) (hiI 46) from (iR_w f_42_11 (by decide +kernel)))) H.size) (cwV 2 hts gX7_joins_X7_add rfl rfl rfl (by decide +kernel) ⟨(Nat.le_of_ble_eq_true rfl), (Nat.le_of_ble_eq_true rfl)⟩) (k_pV hPc hDc hK hN hC hS hFc hP (q0 := 0) (ci := 7) rfl rfl) rfl rfl hl.1 rfl (lv_room (Nat.le_of_ble_eq_true rfl)) dX7_joins_57 ⟨(Nat.le_of_ble_eq_true rfl), (Nat.le_of_ble_eq_true rfl)⟩) hP hD hS hA [0, 1, 2] [3, 4] rfl rfl rfl rfl (by decide) (fun _ => rfl) 0 0 rfl rfl (fun u_57 H locs hw hP hD hS => ?_)
          obtain ⟨g_57_0, g_57_1, g_57_2, g_57_3⟩ := hw
          have hP : va_P (dC, dI) vwCl [((r 42), .inl (cI, 20, .inl f42)), ((r 45), .inl (cI, 500, .inl f45)), (h, .inr (7, oM r (upd (upd (upd i 36 (u_57.1 0)) 44 j0_M0_44) 46 y_42) j)), ((r 32), .inl (cI, 3200, .inl (u_57.2.2.1 0))), ((r 33), .inl (cI, 3200, .inl (u_57.2.2.1 1)))] H := hP
          have hD : va_D A [((r 42), .inl (cI, 20, .inl f42)), ((r 45), .inl (cI, 500, .inl f45)), (h, .inr (7, oM r (upd (upd (upd i 36 (u_57.1 0)) 44 j0_M0_44) 46 y_42) j)), ((r 32), .inl (cI, 3200, .inl (u_57.2.2.1 0))), ((r 33), .inl (cI, 3200, .inl (u_57.2.2.1 1)))] := hD
          have g_57_1 : (u_57.2.2.1 0) = upd j0_A1 (1600 * (i 37).toInt.toNat + j0_M0_36.toInt.toNat) (f45 y_42.toNatClampNeg) := g_57_1
          have g_57_2 : (u_57.1 0).toInt = j0_M0_36.toInt + 1 := g_57_2
          have g_57_3 : FRw 1600 (u_57.2.2.1 0) j0_A1 (i 37).toInt.toNat := g_57_3
          refine lv_aload_n hx hb dX7_joins_60 rfl (lv_at hl 0 rfl) ?_
          refine k_get (D := (dC, dI)) (ci := 7) (v := .ref (r 45)) (C := RX7) (T := TX7) (N := 92) hx hb hts hinX7 hown hK hP 2 rfl rfl 45 (by decide) w_3 rfl rfl dX7_joins_61 ?_
          refine lv_aload_n hx hb dX7_joins_64 rfl (lv_at hl 0 rfl) ?_
          refine k_get (D := (dC, dI)) (ci := 7) (v := .int y_42) (C := RX7) (T := TX7) (N := 92) hx hb hts hinX7 hown hK hP 2 rfl rfl 46 (by decide) w_0 rfl rfl dX7_joins_65 ?_
          refine va_iald hx hb hK hP 1 0 rfl rfl (iR_vp f_42_11 (by decide +kernel)) dX7_joins_68 ?_
          refine lv_bipush (v := 22) hx hb dX7_joins_69 (by decide +kernel) ?_
          refine lv_icmp_ne (tgt := 0) hx hb dX7_joins_71 (by decide) (fun c_71 => ?_) (fun c_71 => ?_)
          · have c_71 : ¬ (f45 y_42.toNatClampNeg) = 22 := c_71
            exact ih_0 (u_57.2.2.1 0) (u_57.2.2.1 1) (u_57.1 0) j0_M0_44 y_42 (iR_w g_57_0 (by decide +kernel)) (iR_w f_0_3 (by decide +kernel)) (iR_w f_42_11 (by decide +kernel)) (FRw_tr g_57_3 t0_fr32) (show PX f38 f39 f40 f41 f42 f45 (u_57.2.2.1 0) (i 43).toInt.toNat y_42.toInt.toNat j0_M0_44.toInt (u_57.1 0).toInt.toNat (i 37).toInt.toNat (i 4).toInt 1 c0 from (by have em : j0_M0_46.toInt.toNat = y_42.toInt.toNat + 1 := (by have q1 : 1 ≤ j0_M0_46.toInt ∧ j0_M0_46.toInt ≤ 47 := f_18_7; omega); have ei : y_13.toNatClampNeg = (i 43).toInt.toNat - 1 := (by have q0 := iR_cn f_13_4 (by decide +kernel); have q1 : 1 ≤ (i 43).toInt ∧ (i 43).toInt ≤ 8 := f_0_1; omega); have p0 := p0_0; rw [em] at p0; have ey : y_42.toNatClampNeg = y_42.toInt.toNat := (by have q0 := iR_cn f_42_11 (by decide +kernel); omega); have hb : (f42 ((i 43).toInt.toNat - 1)).toInt < ((y_42.toInt.toNat + 1 : Nat) : Int) := (by rw [← ei, ← em]; have r1 := i_ti_lt rfl rfl c_15; have q1 : 1 ≤ j0_M0_46.toInt ∧ j0_M0_46.toInt ≤ 47 := f_18_7; omega); have p := PX_pop p0 hb (by rw [← ey]; exact g_57_1); have ec : (u_57.1 0).toInt.toNat = j0_M0_36.toInt.toNat + 1 := (by have q4 : 0 ≤ j0_M0_36.toInt ∧ j0_M0_36.toInt ≤ 1599 := f_36_10; omega); rw [if_neg (by rw [← ey]; exact i_ti_ne rfl (by decide) c_71), Int.sub_zero] at p; rw [ec]; exact p)) (by have q1 : 0 ≤ y_42.toInt ∧ y_42.toInt ≤ 46 := f_42_11; have q2 : 1 ≤ j0_M0_46.toInt ∧ j0_M0_46.toInt ≤ 47 := f_18_7; have h9 := hm_0; omega) H locs ls (hP.sub [2, 3, 4, 0, 1] rfl) (hD.sub [2, 3, 4, 0, 1] (by decide +kernel) rfl) hS (lv_sub hl [0, 1] rfl)
          · have c_71 : (f45 y_42.toNatClampNeg) = 22 := c_71
            have f_74_12 : iR (f45 y_42.toNatClampNeg) 22 22 := iR_eqL c_71 (iR_top _) (iR_c (n := 22) (a := 22) (b := 22) (by decide +kernel) (by decide +kernel)) (by decide +kernel)
            refine lv_aload_n hx hb dX7_joins_74 rfl (lv_at hl 0 rfl) ?_
            refine lv_dup hx hb dX7_joins_75 rfl ?_
            refine k_get (D := (dC, dI)) (ci := 7) (v := .int j0_M0_44) (C := RX7) (T := TX7) (N := 92) hx hb hts hinX7 hown hK hP 2 rfl rfl 44 (by decide) w_4 rfl rfl dX7_joins_76 ?_
            refine lv_iconst (v := 1) hx hb dX7_joins_79 (by decide +kernel) ?_
            refine lv_isub hx hb dX7_joins_80 ?_
            refine lv_topi (fun y_80 ey_80 => ?_)
            have xy_80 : y_80.toInt = j0_M0_44.toInt - 1 := i_sub ey_80 f_0_3 (iR_c (n := 1) (a := 1) (b := 1) (by decide +kernel) (by decide +kernel)) (by decide +kernel)
            have f_80_13 : iR y_80 (-1) 6 := iR_sub ey_80 f_0_3 (iR_c (n := 1) (a := 1) (b := 1) (by decide +kernel) (by decide +kernel)) (by decide +kernel)
            refine k_put (D := (dC, dI)) (ci := 7) (v := .int y_80) (C := RX7) (T := TX7) (N := 92) (ws' := [((r 42), .inl (cI, 20, .inl f42)), ((r 45), .inl (cI, 500, .inl f45)), (h, .inr (7, oM r (upd (upd (upd i 36 (u_57.1 0)) 44 y_80) 46 y_42) j)), ((r 32), .inl (cI, 3200, .inl (u_57.2.2.1 0))), ((r 33), .inl (cI, 3200, .inl (u_57.2.2.1 1)))]) hx hb hts hinX7 tyX7 tyX7_ok nmX7 hown hK hP hD hS 2 rfl rfl 44 (by decide) w_4 rfl rfl rfl rfl (Nat.le_of_ble_eq_true rfl) rfl dX7_joins_81 (fun H locs hP hD hS => ?_)
            refine lv_goto (tgt := 0) hx hb dX7_joins_84 (by decide) ?_
            exact ih_0 (u_57.2.2.1 0) (u_57.2.2.1 1) (u_57.1 0) y_80 y_42 (iR_w g_57_0 (by decide +kernel)) (iR_w f_80_13 (by decide +kernel)) (iR_w f_42_11 (by decide +kernel)) (FRw_tr g_57_3 t0_fr32) (show PX f38 f39 f40 f41 f42 f45 (u_57.2.2.1 0) (i 43).toInt.toNat y_42.toInt.toNat y_80.toInt (u_57.1 0).toInt.toNat (i 37).toInt.toNat (i 4).toInt 1 c0 from (by have em : j0_M0_46.toInt.toNat = y_42.toInt.toNat + 1 := (by have q1 : 1 ≤ j0_M0_46.toInt ∧ j0_M0_46.toInt ≤ 47 := f_18_7; omega); have ei : y_13.toNatClampNeg = (i 43).toInt.toNat - 1 := (by have q0 := iR_cn f_13_4 (by decide +kernel); have q1 : 1 ≤ (i 43).toInt ∧ (i 43).toInt ≤ 8 := f_0_1; omega); have p0 := p0_0; rw [em] at p0; have ey : y_42.toNatClampNeg = y_42.toInt.toNat := (by have q0 := iR_cn f_42_11 (by decide +kernel); omega); have hb : (f42 ((i 43).toInt.toNat - 1)).toInt < ((y_42.toInt.toNat + 1 : Nat) : Int) := (by rw [← ei, ← em]; have r1 := i_ti_lt rfl rfl c_15; have q1 : 1 ≤ j0_M0_46.toInt ∧ j0_M0_46.toInt ≤ 47 := f_18_7; omega); have p := PX_pop p0 hb (by rw [← ey]; exact g_57_1); have ec : (u_57.1 0).toInt.toNat = j0_M0_36.toInt.toNat + 1 := (by have q4 : 0 ≤ j0_M0_36.toInt ∧ j0_M0_36.toInt ≤ 1599 := f_36_10; omega); rw [if_pos (by rw [← ey]; exact i_ti_eq rfl (by decide) c_71)] at p; rw [ec, xy_80]; exact p)) (by have q1 : 0 ≤ y_42.toInt ∧ y_42.toInt ≤ 46 := f_42_11; have q2 : 1 ≤ j0_M0_46.toInt ∧ j0_M0_46.toInt ≤ 47 := f_18_7; have h9 := hm_0; omega) H locs ls (hP.sub [2, 3, 4, 0, 1] rfl) (hD.sub [2, 3, 4, 0, 1] (by decide +kernel) rfl) hS (lv_sub hl [0, 1] rfl)
  exact J_0 _ f32 f33 (i 36) (i 44) (i 46) (show iR (i 36) 0 1600 from hI 36) (iR_w (show iR (i 44) 0 7 from hI 44) (by decide +kernel)) (show iR (i 46) 0 48 from hI 46) FRw_refl (show PX f38 f39 f40 f41 f42 f45 f32 (i 43).toInt.toNat (i 46).toInt.toNat (i 44).toInt (i 36).toInt.toNat (i 37).toInt.toNat (i 4).toInt 1 c0 from hpx) (Nat.lt_succ_self _) H locs ls hP hD hS (lv_sub hl [0, 1] rfl)
set_option maxHeartbeats 8000000 in
set_option maxRecDepth 100000 in
theorem s_X7_areWishes_v2 (l : Launch) (dC : Nat → ClassId) (dI : Nat → Nat → Nat) (cI cJ cZ cM : ClassId) (h : Nat) (r : Nat → Nat) (i : Nat → Int32) (j : Nat → Int64) (x1 : Int32) (x2 : Int32) (f0 : Nat → Int32) (f18 : Nat → Int32) (hx1 : iR x1 0 1600) (hI : mR i) (hf0 : aR f0 0 255) (hf18 : aR f18 0 12) : k_Mi l yX7_areWishes wsX7_areWishes ({ frames := 2, cells := 0, slots := 0, locals := 61 }) (dC, dI) vwCl (tyy cI cJ cZ cM) [(h, .inr (7, oM r i j)), ((r 0), .inl (cI, 1800, .inl f0)), ((r 18), .inl (cI, 2, .inl f18))] [.ref h, .int x1, .int x2] 0 0 (fun (u9 : Unit) => [(h, .inr (7, oM r i j)), ((r 0), .inl (cI, 1800, .inl f0)), ((r 18), .inl (cI, 2, .inl f18))]) (fun (r9 : Int32) (u9 : Unit) => (iR r9 0 1) ∧ ((r9 = 0) ∨ ((AW f0 (f18 (i 13).toNatClampNeg) x1 x2)))) := by
  refine fun sz => k_enter (cc := cX7_areWishes) (maxL := 4) (ret := some (.boolean)) (Qc := fun A => va_Qi (fun (r9 : Int32) (u9 : Unit) => (iR r9 0 1) ∧ ((r9 = 0) ∨ ((AW f0 (f18 (i 13).toNatClampNeg) x1 x2)))) (fun u => k_B (dC, dI) vwCl (tyy cI cJ cZ cM) A ((fun (u9 : Unit) => [(h, .inr (7, oM r i j)), ((r 0), .inl (cI, 1800, .inl f0)), ((r 18), .inl (cI, 2, .inl f18))]) u)) A) sz (by decide +kernel) rfl (Nat.le_of_ble_eq_true rfl) (fun p e s m args below meth c A ls H locs B hP hD hS hl => ?_)
  obtain ⟨hx, hb, hml, hown, hts, hr, hlk, hnm, hK, hA, hN, hC⟩ := id B
  have hown : s.vm.findClass RX7 = some m.cls := hown
  have hl : lv_has ls 4 [(0, .ref h), (1, .int x1), (2, .int x2)] := hl
  have w_0 : (Cond.fieldLink RX7 7 "WishSeaModel" "tape" "[I").before args s = true := hts _ (List.mem_of_getElem? (i := 1) rfl)
  have hinX7 : ∀ w ∈ u_ws RX7 TX7 92, w ∈ wsX7_areWishes := fun _ h => List.mem_cons_of_mem _ (List.mem_append_right _ h)
  refine lv_iconst (v := 0) hx hb dX7_areWishes_0 (by decide +kernel) ?_
  have J_2 : ∀ (n_2 : Nat) (j2_L3 : Int32) (hj2_L3 : iR j2_L3 0 1600) (p2_0 : AW f0 (f18 (i 13).toNatClampNeg) j2_L3 x2) (hm_2 : (1600 - j2_L3.toInt).toNat < n_2) (H : Heap) (locs : List Loc) (ls : Array Slot), va_P (dC, dI) vwCl [(h, .inr (7, oM r i j)), ((r 0), .inl (cI, 1800, .inl f0)), ((r 18), .inl (cI, 2, .inl f18))] H → va_D A [(h, .inr (7, oM r i j)), ((r 0), .inl (cI, 1800, .inl f0)), ((r 18), .inl (cI, 2, .inl f18))] → va_S A s.heap H locs → lv_has ls 4 [(0, .ref h), (1, .int x1), (2, .int x2), (3, .int j2_L3)] → W p l e ({ frames := 2, cells := 0, slots := 0, locals := 61 }) s m args below meth c H locs 0 0 (MQ below (va_Qi (fun (r9 : Int32) (u9 : Unit) => (iR r9 0 1) ∧ ((r9 = 0) ∨ ((AW f0 (f18 (i 13).toNatClampNeg) x1 x2)))) (fun u => k_B (dC, dI) vwCl (tyy cI cJ cZ cM) A ((fun (u9 : Unit) => [(h, .inr (7, oM r i j)), ((r 0), .inl (cI, 1800, .inl f0)), ((r 18), .inl (cI, 2, .inl f18))]) u)) A) args s 0 0 A) (F0 m 2 ls []) := by
    intro n_2
    induction n_2 with
    | zero => intro j2_L3 hj2_L3 p2_0 hm_2; exact absurd hm_2 (Nat.not_lt_zero _)
    | succ n_2 ih_2 =>
      intro j2_L3 hj2_L3 p2_0 hm_2 H locs ls hP hD hS hl
      refine lv_iload_n hx hb dX7_areWishes_2 rfl (lv_at hl 3 rfl) ?_
      refine lv_iload_n hx hb dX7_areWishes_3 rfl (lv_at hl 1 rfl) ?_
      refine lv_icmp_ge (tgt := 44) hx hb dX7_areWishes_4 (by decide) (fun c_4 => ?_) (fun c_4 => ?_)
      · have c_4 : x1 ≤ j2_L3 := c_4
        refine lv_iconst (v := 1) hx hb dX7_areWishes_44 (by decide +kernel) ?_
        exact k_ri B hP hD hS dX7_areWishes_45 () [0, 1, 2] rfl rfl rfl (Nat.le_of_ble_eq_true rfl) (Nat.le_of_ble_eq_true rfl) ⟨(show iR 1 0 1 from (iR_c (n := 1) (a := 0) (b := 1) (by decide +kernel) (by decide +kernel))), (show (1 = 0) ∨ ((AW f0 (f18 (i 13).toNatClampNeg) x1 x2)) from (Or.inr (AW_le p2_0 c_4)))⟩
      · have c_4 : j2_L3 < x1 := i_nle c_4
        have f_7_1 : iR j2_L3 0 1599 := iR_ltL c_4 hj2_L3 hx1 (by decide +kernel)
        have f_7_2 : iR x1 1 1600 := iR_ltR c_4 hj2_L3 hx1 (by decide +kernel)
        refine lv_aload_n hx hb dX7_areWishes_7 rfl (lv_at hl 0 rfl) ?_
        refine lv_aload_n hx hb dX7_areWishes_8 rfl (lv_at hl 0 rfl) ?_
        refine k_get (D := (dC, dI)) (ci := 7) (v := .ref (r 0)) (C := RX7) (T := TX7) (N := 92) hx hb hts hinX7 hown hK hP 0 rfl rfl 0 (by decide) w_0 rfl rfl dX7_areWishes_9 ?_
        refine lv_iload_n hx hb dX7_areWishes_12 rfl (lv_at hl 3 rfl) ?_
        refine va_iald hx hb hK hP 1 0 rfl rfl (iR_vp f_7_1 (by decide +kernel)) dX7_areWishes_13 ?_
        have f_13_3 : iR (f0 j2_L3.toNatClampNeg) 0 255 := hf0 _
        refine k_ci (wc := [(h, .inr (7, oM r i j)), ((r 18), .inl (cI, 2, .inl f18))]) (wr := [((r 0), .inl (cI, 1800, .inl f0))]) (fun hPc hDc hFc => va_runV (As := [.int (f0 j2_L3.toNatClampNeg)]) (rest := []) ⟨hx, hb, hml, hown, hts⟩ (s_X7_isWish_v1 l dC dI cI cJ cZ cM h r i j (f0 j2_L3.toNatClampNeg) f18 hI hf18 H.size) (cwV 1 hts gX7_areWishes_X7_isWish rfl rfl rfl (by decide +kernel) ⟨(Nat.le_of_ble_eq_true rfl), (Nat.le_of_ble_eq_true rfl)⟩) (k_pV hPc hDc hK hN hC hS hFc hP (q0 := 0) (ci := 7) rfl rfl) rfl rfl hl.1 rfl (lv_room (Nat.le_of_ble_eq_true rfl)) dX7_areWishes_14 ⟨(Nat.le_of_ble_eq_true rfl), (Nat.le_of_ble_eq_true rfl)⟩) hP hD hS hA [0, 2] [1] rfl rfl rfl rfl (by decide) (fun _ => rfl) 0 0 rfl rfl (fun r_14 u_14 H locs hw hP hD hS => ?_)
        obtain ⟨g_14_0, g_14_1⟩ := hw
        have hP : va_P (dC, dI) vwCl [((r 0), .inl (cI, 1800, .inl f0)), (h, .inr (7, oM r i j)), ((r 18), .inl (cI, 2, .inl f18))] H := hP
        have hD : va_D A [((r 0), .inl (cI, 1800, .inl f0)), (h, .inr (7, oM r i j)), ((r 18), .inl (cI, 2, .inl f18))] := hD
        have g_14_1 : (r_14 = 0) ∨ ((0 ≤ (f0 j2_L3.toNatClampNeg)) ∧ ((f0 j2_L3.toNatClampNeg) < (f18 (i 13).toNatClampNeg))) := g_14_1
        refine lv_if_ne (tgt := 38) hx hb dX7_areWishes_17 (by decide) (fun c_17 => ?_) (fun c_17 => ?_)
        · have c_17 : ¬ r_14 = 0 := c_17
          have f_38_4 : iR r_14 1 1 := iR_neL c_17 g_14_0 (iR_c (n := 0) (a := 0) (b := 0) (by decide +kernel) (by decide +kernel)) (by decide +kernel)
          obtain ⟨d_17_1_0, d_17_1_1⟩ := g_14_1.resolve_left c_17
          have f_38_5 : iR (f0 j2_L3.toNatClampNeg) 0 11 := iR_ltL d_17_1_1 f_13_3 (show iR (f18 (i 13).toNatClampNeg) 0 12 from hf18 _) (by decide +kernel)
          have f_38_6 : iR (f18 (i 13).toNatClampNeg) 1 12 := iR_ltR d_17_1_1 f_13_3 (show iR (f18 (i 13).toNatClampNeg) 0 12 from hf18 _) (by decide +kernel)
          obtain ⟨y_38p17, ey_38p17⟩ : ∃ y : Int32, y = j2_L3 + 1 := ⟨_, rfl⟩
          refine lv_iinc (v := y_38p17) (lv' := [(3, .int y_38p17), (0, .ref h), (1, .int x1), (2, .int x2)]) hx hb dX7_areWishes_38 hl (k := 3) rfl ey_38p17.symm (by decide) rfl (fun ls hl => ?_)
          have f_38p17_7 : iR y_38p17 1 1600 := iR_add ey_38p17 f_7_1 (iR_c (n := 1) (a := 1) (b := 1) (by decide +kernel) (by decide +kernel)) (by decide +kernel)
          refine lv_goto (tgt := 2) hx hb dX7_areWishes_41 (by decide) ?_
          exact ih_2 y_38p17 (iR_w f_38p17_7 (by decide +kernel)) (show AW f0 (f18 (i 13).toNatClampNeg) y_38p17 x2 from (AW_step p2_0 ey_38p17 f_7_1 (by decide +kernel) (Or.inl ⟨d_17_1_0, d_17_1_1⟩))) (m_up (B := 1600) hm_2 ey_38p17 f_7_1 (by decide +kernel)) H locs ls (hP.sub [1, 0, 2] rfl) (hD.sub [1, 0, 2] (by decide +kernel) rfl) hS (lv_sub hl [1, 2, 3, 0] rfl)
        · have c_17 : r_14 = 0 := c_17
          have f_20_4 : iR r_14 0 0 := iR_eqL c_17 g_14_0 (iR_c (n := 0) (a := 0) (b := 0) (by decide +kernel) (by decide +kernel)) (by decide +kernel)
          refine lv_iload_n hx hb dX7_areWishes_20 rfl (lv_at hl 2 rfl) ?_
          have J_36 : ∀   (H : Heap) (locs : List Loc) (ls : Array Slot), va_P (dC, dI) vwCl [(h, .inr (7, oM r i j)), ((r 0), .inl (cI, 1800, .inl f0)), ((r 18), .inl (cI, 2, .inl f18))] H → va_D A [(h, .inr (7, oM r i j)), ((r 0), .inl (cI, 1800, .inl f0)), ((r 18), .inl (cI, 2, .inl f18))] → va_S A s.heap H locs → lv_has ls 4 [] → W p l e ({ frames := 2, cells := 0, slots := 0, locals := 61 }) s m args below meth c H locs 0 0 (MQ below (va_Qi (fun (r9 : Int32) (u9 : Unit) => (iR r9 0 1) ∧ ((r9 = 0) ∨ ((AW f0 (f18 (i 13).toNatClampNeg) x1 x2)))) (fun u => k_B (dC, dI) vwCl (tyy cI cJ cZ cM) A ((fun (u9 : Unit) => [(h, .inr (7, oM r i j)), ((r 0), .inl (cI, 1800, .inl f0)), ((r 18), .inl (cI, 2, .inl f18))]) u)) A) args s 0 0 A) (F0 m 36 ls []) := by
            intro   H locs ls hP hD hS hl
            refine lv_iconst (v := 0) hx hb dX7_areWishes_36 (by decide +kernel) ?_
            exact k_ri B hP hD hS dX7_areWishes_37 () [0, 1, 2] rfl rfl rfl (Nat.le_of_ble_eq_true rfl) (Nat.le_of_ble_eq_true rfl) ⟨(show iR 0 0 1 from (iR_c (n := 0) (a := 0) (b := 1) (by decide +kernel) (by decide +kernel))), (show (0 = 0) ∨ ((AW f0 (f18 (i 13).toNatClampNeg) x1 x2)) from (Or.inl rfl))⟩
          refine lv_if_eq (tgt := 36) hx hb dX7_areWishes_21 (by decide) (fun c_21 => ?_) (fun c_21 => ?_)
          · have c_21 : x2 = 0 := c_21
            have f_36_5 : iR x2 0 0 := iR_eqL c_21 (iR_top _) (iR_c (n := 0) (a := 0) (b := 0) (by decide +kernel) (by decide +kernel)) (by decide +kernel)
            exact J_36   H locs ls (hP.sub [1, 0, 2] rfl) (hD.sub [1, 0, 2] (by decide +kernel) rfl) hS (lv_sub hl [] rfl)
          · have c_21 : ¬ x2 = 0 := c_21
            refine lv_aload_n hx hb dX7_areWishes_24 rfl (lv_at hl 0 rfl) ?_
            refine k_get (D := (dC, dI)) (ci := 7) (v := .ref (r 0)) (C := RX7) (T := TX7) (N := 92) hx hb hts hinX7 hown hK hP 1 rfl rfl 0 (by decide) w_0 rfl rfl dX7_areWishes_25 ?_
            refine lv_iload_n hx hb dX7_areWishes_28 rfl (lv_at hl 3 rfl) ?_
            refine va_iald hx hb hK hP 0 0 rfl rfl (iR_vp f_7_1 (by decide +kernel)) dX7_areWishes_29 ?_
            refine lv_sipush (v := 255) hx hb dX7_areWishes_30 (by decide +kernel) ?_
            refine lv_icmp_eq (tgt := 38) hx hb dX7_areWishes_33 (by decide) (fun c_33 => ?_) (fun c_33 => ?_)
            · have c_33 : (f0 j2_L3.toNatClampNeg) = 255 := c_33
              have f_38_5 : iR (f0 j2_L3.toNatClampNeg) 255 255 := iR_eqL c_33 f_13_3 (iR_c (n := 255) (a := 255) (b := 255) (by decide +kernel) (by decide +kernel)) (by decide +kernel)
              obtain ⟨y_38p33, ey_38p33⟩ : ∃ y : Int32, y = j2_L3 + 1 := ⟨_, rfl⟩
              refine lv_iinc (v := y_38p33) (lv' := [(3, .int y_38p33), (0, .ref h), (1, .int x1), (2, .int x2)]) hx hb dX7_areWishes_38 hl (k := 3) rfl ey_38p33.symm (by decide) rfl (fun ls hl => ?_)
              have f_38p33_6 : iR y_38p33 1 1600 := iR_add ey_38p33 f_7_1 (iR_c (n := 1) (a := 1) (b := 1) (by decide +kernel) (by decide +kernel)) (by decide +kernel)
              refine lv_goto (tgt := 2) hx hb dX7_areWishes_41 (by decide) ?_
              exact ih_2 y_38p33 (iR_w f_38p33_6 (by decide +kernel)) (show AW f0 (f18 (i 13).toNatClampNeg) y_38p33 x2 from (AW_step p2_0 ey_38p33 f_7_1 (by decide +kernel) (Or.inr ⟨by decide, c_33⟩))) (m_up (B := 1600) hm_2 ey_38p33 f_7_1 (by decide +kernel)) H locs ls (hP.sub [1, 0, 2] rfl) (hD.sub [1, 0, 2] (by decide +kernel) rfl) hS (lv_sub hl [1, 2, 3, 0] rfl)
            · have c_33 : ¬ (f0 j2_L3.toNatClampNeg) = 255 := c_33
              have f_36_5 : iR (f0 j2_L3.toNatClampNeg) 0 254 := iR_neL c_33 f_13_3 (iR_c (n := 255) (a := 255) (b := 255) (by decide +kernel) (by decide +kernel)) (by decide +kernel)
              exact J_36   H locs ls (hP.sub [1, 0, 2] rfl) (hD.sub [1, 0, 2] (by decide +kernel) rfl) hS (lv_sub hl [] rfl)
  refine lv_istore_n (lv' := [(3, .int 0), (0, .ref h), (1, .int x1), (2, .int x2)]) hx hb dX7_areWishes_1 rfl hl (by decide) rfl (fun ls hl => ?_)
  exact J_2 _ 0 (iR_c (n := 0) (a := 0) (b := 1600) (by decide +kernel) (by decide +kernel)) (show AW f0 (f18 (i 13).toNatClampNeg) 0 x2 from AW_0) (Nat.lt_succ_self _) H locs ls hP hD hS (lv_sub hl [1, 2, 3, 0] rfl)
set_option maxHeartbeats 8000000 in
set_option maxRecDepth 100000 in
theorem s_X7_manyOf_v4 (l : Launch) (dC : Nat → ClassId) (dI : Nat → Nat → Nat) (cI cJ cZ cM : ClassId) (h : Nat) (r : Nat → Nat) (i : Nat → Int32) (j : Nat → Int64) (x1 : Int32) (f14 : Nat → Int32) (hx1 : iR x1 0 1) (hI : mR i) (hf14 : aR f14 0 10) : k_Mi l yX7_manyOf wsX7_manyOf ({ frames := 1, cells := 0, slots := 0, locals := 40 }) (dC, dI) vwCl (tyy cI cJ cZ cM) [(h, .inr (7, oM r i j)), ((r 14), .inl (cI, 2, .inl f14))] [.ref h, .int x1, .int 0] 0 0 (fun (u9 : Unit) => [(h, .inr (7, oM r i j)), ((r 14), .inl (cI, 2, .inl f14))]) (fun (r9 : Int32) (u9 : Unit) => (r9 = (f14 x1.toNatClampNeg))) := by
  refine fun sz => k_enter (cc := cX7_manyOf) (maxL := 3) (ret := some (.int)) (Qc := fun A => va_Qi (fun (r9 : Int32) (u9 : Unit) => (r9 = (f14 x1.toNatClampNeg))) (fun u => k_B (dC, dI) vwCl (tyy cI cJ cZ cM) A ((fun (u9 : Unit) => [(h, .inr (7, oM r i j)), ((r 14), .inl (cI, 2, .inl f14))]) u)) A) sz (by decide +kernel) rfl (Nat.le_of_ble_eq_true rfl) (fun p e s m args below meth c A ls H locs B hP hD hS hl => ?_)
  obtain ⟨hx, hb, hml, hown, hts, hr, hlk, hnm, hK, hA, hN, hC⟩ := id B
  have hown : s.vm.findClass RX7 = some m.cls := hown
  have hl : lv_has ls 3 [(0, .ref h), (1, .int x1), (2, .int 0)] := hl
  have w_0 : (Cond.fieldLink RX7 54 "WishSeaModel" "things" "[I").before args s = true := hts _ (List.mem_of_getElem? (i := 1) rfl)
  have hinX7 : ∀ w ∈ u_ws RX7 TX7 92, w ∈ wsX7_manyOf := fun _ h => List.mem_cons_of_mem _ (List.mem_append_right _ h)
  refine lv_iload_n hx hb dX7_manyOf_0 rfl (lv_at hl 2 rfl) ?_
  refine lv_if_ne (tgt := 13) hx hb dX7_manyOf_1 (by decide) (fun q9 => absurd q9 (by decide +kernel)) (fun _ => ?_)
  refine lv_aload_n hx hb dX7_manyOf_4 rfl (lv_at hl 0 rfl) ?_
  refine k_get (D := (dC, dI)) (ci := 7) (v := .ref (r 14)) (C := RX7) (T := TX7) (N := 92) hx hb hts hinX7 hown hK hP 0 rfl rfl 14 (by decide) w_0 rfl rfl dX7_manyOf_5 ?_
  refine lv_iload_n hx hb dX7_manyOf_8 rfl (lv_at hl 1 rfl) ?_
  refine va_iald hx hb hK hP 1 0 rfl rfl (iR_vp hx1 (by decide +kernel)) dX7_manyOf_9 ?_
  have f_9_1 : iR (f14 x1.toNatClampNeg) 0 10 := hf14 _
  refine lv_goto (tgt := 19) hx hb dX7_manyOf_10 (by decide) ?_
  exact k_ri B hP hD hS dX7_manyOf_19 () [0, 1] rfl rfl rfl (Nat.le_of_ble_eq_true rfl) (Nat.le_of_ble_eq_true rfl) rfl
set_option maxHeartbeats 8000000 in
set_option maxRecDepth 100000 in
theorem s_X7_nameOf_v4 (l : Launch) (dC : Nat → ClassId) (dI : Nat → Nat → Nat) (cI cJ cZ cM : ClassId) (h : Nat) (r : Nat → Nat) (i : Nat → Int32) (j : Nat → Int64) (x1 : Int32) (x3 : Int32) (g34 : Nat → Int64) (hx1 : iR x1 0 1) (hx3 : iR x3 0 9) (hI : mR i) : k_Ml l yX7_nameOf wsX7_nameOf ({ frames := 1, cells := 0, slots := 0, locals := 40 }) (dC, dI) vwCl (tyy cI cJ cZ cM) [(h, .inr (7, oM r i j)), ((r 34), .inl (cJ, 20, .inr (.inl g34)))] [.ref h, .int x1, .int 0, .int x3] 0 0 (fun (u9 : Unit) => [(h, .inr (7, oM r i j)), ((r 34), .inl (cJ, 20, .inr (.inl g34)))]) (fun (r9 : Int64) (u9 : Unit) => True) := by
  refine fun sz => k_enter (cc := cX7_nameOf) (maxL := 4) (ret := some (.long)) (Qc := fun A => va_Ql (fun (r9 : Int64) (u9 : Unit) => True) (fun u => k_B (dC, dI) vwCl (tyy cI cJ cZ cM) A ((fun (u9 : Unit) => [(h, .inr (7, oM r i j)), ((r 34), .inl (cJ, 20, .inr (.inl g34)))]) u)) A) sz (by decide +kernel) rfl (Nat.le_of_ble_eq_true rfl) (fun p e s m args below meth c A ls H locs B hP hD hS hl => ?_)
  obtain ⟨hx, hb, hml, hown, hts, hr, hlk, hnm, hK, hA, hN, hC⟩ := id B
  have hown : s.vm.findClass RX7 = some m.cls := hown
  have hl : lv_has ls 4 [(0, .ref h), (1, .int x1), (2, .int 0), (3, .int x3)] := hl
  have w_0 : (Cond.fieldLink RX7 114 "WishSeaModel" "thingName" "[J").before args s = true := hts _ (List.mem_of_getElem? (i := 1) rfl)
  have hinX7 : ∀ w ∈ u_ws RX7 TX7 92, w ∈ wsX7_nameOf := fun _ h => List.mem_cons_of_mem _ (List.mem_append_right _ h)
  refine lv_iload_n hx hb dX7_nameOf_0 rfl (lv_at hl 2 rfl) ?_
  refine lv_if_ne (tgt := 18) hx hb dX7_nameOf_1 (by decide) (fun q9 => absurd q9 (by decide +kernel)) (fun _ => ?_)
  refine lv_aload_n hx hb dX7_nameOf_4 rfl (lv_at hl 0 rfl) ?_
  refine k_get (D := (dC, dI)) (ci := 7) (v := .ref (r 34)) (C := RX7) (T := TX7) (N := 92) hx hb hts hinX7 hown hK hP 0 rfl rfl 34 (by decide) w_0 rfl rfl dX7_nameOf_5 ?_
  refine lv_bipush (v := 10) hx hb dX7_nameOf_8 (by decide +kernel) ?_
  refine lv_iload_n hx hb dX7_nameOf_10 rfl (lv_at hl 1 rfl) ?_
  refine lv_imul hx hb dX7_nameOf_11 ?_
  refine lv_topi (fun y_11 ey_11 => ?_)
  have f_11_1 : iR y_11 0 10 := iR_mul ey_11 (iR_c (n := 10) (a := 10) (b := 10) (by decide +kernel) (by decide +kernel)) hx1 (by decide +kernel)
  refine lv_iload_n hx hb dX7_nameOf_12 rfl (lv_at hl 3 rfl) ?_
  refine lv_iadd hx hb dX7_nameOf_13 ?_
  refine lv_topi (fun y_13 ey_13 => ?_)
  have f_13_2 : iR y_13 0 19 := iR_add ey_13 f_11_1 hx3 (by decide +kernel)
  refine va_lald hx hb hK hP 1 1 rfl rfl (iR_vp f_13_2 (by decide +kernel)) dX7_nameOf_14 ?_
  refine lv_goto (tgt := 29) hx hb dX7_nameOf_15 (by decide) ?_
  exact k_rl B hP hD hS dX7_nameOf_29 () [0, 1] rfl rfl (Nat.le_of_ble_eq_true rfl) (Nat.le_of_ble_eq_true rfl) trivial
set_option maxHeartbeats 8000000 in
set_option maxRecDepth 100000 in
theorem s_X7_named_v0 (l : Launch) (dC : Nat → ClassId) (dI : Nat → Nat → Nat) (cI cJ cZ cM : ClassId) (h : Nat) (r : Nat → Nat) (i : Nat → Int32) (j : Nat → Int64) (x2 : Int64) (f14 : Nat → Int32) (g34 : Nat → Int64) (hI : mR i) (hf14 : aR f14 0 10) : k_Mi l yX7_named wsX7_named ({ frames := 2, cells := 0, slots := 0, locals := 63 }) (dC, dI) vwCl (tyy cI cJ cZ cM) [(h, .inr (7, oM r i j)), ((r 14), .inl (cI, 2, .inl f14)), ((r 34), .inl (cJ, 20, .inr (.inl g34)))] [.ref h, .int 0, .long x2] 0 0 (fun (u9 : Unit) => [(h, .inr (7, oM r i j)), ((r 14), .inl (cI, 2, .inl f14)), ((r 34), .inl (cJ, 20, .inr (.inl g34)))]) (fun (r9 : Int32) (u9 : Unit) => (iR r9 (-1) 9)) := by
  refine fun sz => k_enter (cc := cX7_named) (maxL := 5) (ret := some (.int)) (Qc := fun A => va_Qi (fun (r9 : Int32) (u9 : Unit) => (iR r9 (-1) 9)) (fun u => k_B (dC, dI) vwCl (tyy cI cJ cZ cM) A ((fun (u9 : Unit) => [(h, .inr (7, oM r i j)), ((r 14), .inl (cI, 2, .inl f14)), ((r 34), .inl (cJ, 20, .inr (.inl g34)))]) u)) A) sz (by decide +kernel) rfl (Nat.le_of_ble_eq_true rfl) (fun p e s m args below meth c A ls H locs B hP hD hS hl => ?_)
  obtain ⟨hx, hb, hml, hown, hts, hr, hlk, hnm, hK, hA, hN, hC⟩ := id B
  have hown : s.vm.findClass RX7 = some m.cls := hown
  have hl : lv_has ls 5 [(0, .ref h), (1, .int 0), (2, .long x2)] := hl
  have w_0 : (Cond.fieldLink RX7 124 "WishSeaModel" "in" "I").before args s = true := hts _ (List.mem_of_getElem? (i := 1) rfl)
  have hinX7 : ∀ w ∈ u_ws RX7 TX7 92, w ∈ wsX7_named := fun _ h => List.mem_cons_of_mem _ (List.mem_append_right _ h)
  refine lv_iconst (v := 0) hx hb dX7_named_0 (by decide +kernel) ?_
  have J_3 : ∀ (n_3 : Nat) (j3_L4 : Int32) (hj3_L4 : iR j3_L4 0 10) (hm_3 : (10 - j3_L4.toInt).toNat < n_3) (H : Heap) (locs : List Loc) (ls : Array Slot), va_P (dC, dI) vwCl [(h, .inr (7, oM r i j)), ((r 14), .inl (cI, 2, .inl f14)), ((r 34), .inl (cJ, 20, .inr (.inl g34)))] H → va_D A [(h, .inr (7, oM r i j)), ((r 14), .inl (cI, 2, .inl f14)), ((r 34), .inl (cJ, 20, .inr (.inl g34)))] → va_S A s.heap H locs → lv_has ls 5 [(0, .ref h), (1, .int 0), (2, .long x2), (4, .int j3_L4)] → W p l e ({ frames := 2, cells := 0, slots := 0, locals := 63 }) s m args below meth c H locs 0 0 (MQ below (va_Qi (fun (r9 : Int32) (u9 : Unit) => (iR r9 (-1) 9)) (fun u => k_B (dC, dI) vwCl (tyy cI cJ cZ cM) A ((fun (u9 : Unit) => [(h, .inr (7, oM r i j)), ((r 14), .inl (cI, 2, .inl f14)), ((r 34), .inl (cJ, 20, .inr (.inl g34)))]) u)) A) args s 0 0 A) (F0 m 3 ls []) := by
    intro n_3
    induction n_3 with
    | zero => intro j3_L4 hj3_L4 hm_3; exact absurd hm_3 (Nat.not_lt_zero _)
    | succ n_3 ih_3 =>
      intro j3_L4 hj3_L4 hm_3 H locs ls hP hD hS hl
      refine lv_iload hx hb dX7_named_3 (lv_at hl 3 rfl) ?_
      refine lv_aload_n hx hb dX7_named_5 rfl (lv_at hl 0 rfl) ?_
      refine lv_aload_n hx hb dX7_named_6 rfl (lv_at hl 0 rfl) ?_
      have f_7_1 : iR (i 37) 0 1 := hI 37
      refine k_get (D := (dC, dI)) (ci := 7) (v := .int (i 37)) (C := RX7) (T := TX7) (N := 92) hx hb hts hinX7 hown hK hP 0 rfl rfl 37 (by decide) w_0 rfl rfl dX7_named_7 ?_
      refine lv_iload_n hx hb dX7_named_10 rfl (lv_at hl 1 rfl) ?_
      refine k_ci (wc := [(h, .inr (7, oM r i j)), ((r 14), .inl (cI, 2, .inl f14))]) (wr := [((r 34), .inl (cJ, 20, .inr (.inl g34)))]) (fun hPc hDc hFc => va_runV (As := [.int (i 37), .int 0]) (rest := [.int j3_L4]) ⟨hx, hb, hml, hown, hts⟩ (s_X7_manyOf_v4 l dC dI cI cJ cZ cM h r i j (i 37) f14 f_7_1 hI hf14 H.size) (cwV 2 hts gX7_named_X7_manyOf rfl rfl rfl (by decide +kernel) ⟨(Nat.le_of_ble_eq_true rfl), (Nat.le_of_ble_eq_true rfl)⟩) (k_pV hPc hDc hK hN hC hS hFc hP (q0 := 0) (ci := 7) rfl rfl) rfl rfl hl.1 rfl (lv_room (Nat.le_of_ble_eq_true rfl)) dX7_named_11 ⟨(Nat.le_of_ble_eq_true rfl), (Nat.le_of_ble_eq_true rfl)⟩) hP hD hS hA [0, 1] [2] rfl rfl rfl rfl (by decide) (fun _ => rfl) 0 0 rfl rfl (fun r_11 u_11 H locs hw hP hD hS => ?_)
      have g_11_0 := hw
      obtain rfl : r_11 = (f14 (i 37).toNatClampNeg) := g_11_0
      have hP : va_P (dC, dI) vwCl [((r 34), .inl (cJ, 20, .inr (.inl g34))), (h, .inr (7, oM r i j)), ((r 14), .inl (cI, 2, .inl f14))] H := hP
      have hD : va_D A [((r 34), .inl (cJ, 20, .inr (.inl g34))), (h, .inr (7, oM r i j)), ((r 14), .inl (cI, 2, .inl f14))] := hD
      refine lv_icmp_ge (tgt := 42) hx hb dX7_named_14 (by decide) (fun c_14 => ?_) (fun c_14 => ?_)
      · have c_14 : (f14 (i 37).toNatClampNeg) ≤ j3_L4 := c_14
        refine lv_iconst (v := (-1)) hx hb dX7_named_42 (by decide +kernel) ?_
        exact k_ri B hP hD hS dX7_named_43 () [1, 2, 0] rfl rfl rfl (Nat.le_of_ble_eq_true rfl) (Nat.le_of_ble_eq_true rfl) (show iR (-1) (-1) 9 from (iR_c (n := (-1)) (a := (-1)) (b := 9) (by decide +kernel) (by decide +kernel)))
      · have c_14 : j3_L4 < (f14 (i 37).toNatClampNeg) := i_nle c_14
        have f_17_2 : iR j3_L4 0 9 := iR_ltL c_14 hj3_L4 (show iR (f14 (i 37).toNatClampNeg) 0 10 from hf14 _) (by decide +kernel)
        have f_17_3 : iR (f14 (i 37).toNatClampNeg) 1 10 := iR_ltR c_14 hj3_L4 (show iR (f14 (i 37).toNatClampNeg) 0 10 from hf14 _) (by decide +kernel)
        refine lv_aload_n hx hb dX7_named_17 rfl (lv_at hl 0 rfl) ?_
        refine lv_aload_n hx hb dX7_named_18 rfl (lv_at hl 0 rfl) ?_
        refine k_get (D := (dC, dI)) (ci := 7) (v := .int (i 37)) (C := RX7) (T := TX7) (N := 92) hx hb hts hinX7 hown hK hP 1 rfl rfl 37 (by decide) w_0 rfl rfl dX7_named_19 ?_
        refine lv_iload_n hx hb dX7_named_22 rfl (lv_at hl 1 rfl) ?_
        refine lv_iload hx hb dX7_named_23 (lv_at hl 3 rfl) ?_
        refine k_cl (wc := [(h, .inr (7, oM r i j)), ((r 34), .inl (cJ, 20, .inr (.inl g34)))]) (wr := [((r 14), .inl (cI, 2, .inl f14))]) (fun hPc hDc hFc => va_runV (As := [.int (i 37), .int 0, .int j3_L4]) (rest := []) ⟨hx, hb, hml, hown, hts⟩ (s_X7_nameOf_v4 l dC dI cI cJ cZ cM h r i j (i 37) j3_L4 g34 f_7_1 f_17_2 hI H.size) (cwV 3 hts gX7_named_X7_nameOf rfl rfl rfl (by decide +kernel) ⟨(Nat.le_of_ble_eq_true rfl), (Nat.le_of_ble_eq_true rfl)⟩) (k_pV hPc hDc hK hN hC hS hFc hP (q0 := 1) (ci := 7) rfl rfl) rfl rfl hl.1 rfl (lv_room (Nat.le_of_ble_eq_true rfl)) dX7_named_25 ⟨(Nat.le_of_ble_eq_true rfl), (Nat.le_of_ble_eq_true rfl)⟩) hP hD hS hA [1, 0] [2] rfl rfl rfl rfl (by decide) (fun _ => rfl) 0 0 rfl rfl (fun r_25 u_25 H locs hw hP hD hS => ?_)
        have hP : va_P (dC, dI) vwCl [((r 14), .inl (cI, 2, .inl f14)), (h, .inr (7, oM r i j)), ((r 34), .inl (cJ, 20, .inr (.inl g34)))] H := hP
        have hD : va_D A [((r 14), .inl (cI, 2, .inl f14)), (h, .inr (7, oM r i j)), ((r 34), .inl (cJ, 20, .inr (.inl g34)))] := hD
        refine lv_lload_n hx hb dX7_named_28 rfl (lv_at hl 2 rfl) ?_
        refine W.lcmp hx hb dX7_named_29 ?_
        refine lv_topi (fun y_29 ey_29 => ?_)
        refine lv_if_ne (tgt := 36) hx hb dX7_named_30 (by decide) (fun c_30 => ?_) (fun c_30 => ?_)
        · have c_30 : ¬ y_29 = 0 := c_30
          have lc_30 : ¬ r_25 = x2 := l_cmpne ey_29 c_30
          obtain ⟨y_36, ey_36⟩ : ∃ y : Int32, y = j3_L4 + 1 := ⟨_, rfl⟩
          refine lv_iinc (v := y_36) (lv' := [(4, .int y_36), (0, .ref h), (1, .int 0), (2, .long x2)]) hx hb dX7_named_36 hl (k := 3) rfl ey_36.symm (by decide) rfl (fun ls hl => ?_)
          have f_36_4 : iR y_36 1 10 := iR_add ey_36 f_17_2 (iR_c (n := 1) (a := 1) (b := 1) (by decide +kernel) (by decide +kernel)) (by decide +kernel)
          refine lv_goto (tgt := 3) hx hb dX7_named_39 (by decide) ?_
          exact ih_3 y_36 (iR_w f_36_4 (by decide +kernel)) (m_up (B := 10) hm_3 ey_36 f_17_2 (by decide +kernel)) H locs ls (hP.sub [1, 0, 2] rfl) (hD.sub [1, 0, 2] (by decide +kernel) rfl) hS (lv_sub hl [1, 2, 3, 0] rfl)
        · have c_30 : y_29 = 0 := c_30
          have f_33_4 : iR y_29 0 0 := iR_eqL c_30 (iR_top _) (iR_c (n := 0) (a := 0) (b := 0) (by decide +kernel) (by decide +kernel)) (by decide +kernel)
          have lc_30 : r_25 = x2 := l_cmpe ey_29 c_30
          refine lv_iload hx hb dX7_named_33 (lv_at hl 3 rfl) ?_
          exact k_ri B hP hD hS dX7_named_35 () [1, 0, 2] rfl rfl rfl (Nat.le_of_ble_eq_true rfl) (Nat.le_of_ble_eq_true rfl) (show iR j3_L4 (-1) 9 from (iR_w f_17_2 (by decide +kernel)))
  refine lv_istore (lv' := [(4, .int 0), (0, .ref h), (1, .int 0), (2, .long x2)]) hx hb dX7_named_1 hl (by decide) rfl (fun ls hl => ?_)
  exact J_3 _ 0 (iR_c (n := 0) (a := 0) (b := 10) (by decide +kernel) (by decide +kernel)) (Nat.lt_succ_self _) H locs ls hP hD hS (lv_sub hl [1, 2, 3, 0] rfl)
set_option maxHeartbeats 8000000 in
set_option maxRecDepth 100000 in
theorem s_X7_manyOf_v5 (l : Launch) (dC : Nat → ClassId) (dI : Nat → Nat → Nat) (cI cJ cZ cM : ClassId) (h : Nat) (r : Nat → Nat) (i : Nat → Int32) (j : Nat → Int64) (x1 : Int32) (f18 : Nat → Int32) (hx1 : iR x1 0 1) (hI : mR i) (hf18 : aR f18 0 12) : k_Mi l yX7_manyOf wsX7_manyOf ({ frames := 1, cells := 0, slots := 0, locals := 40 }) (dC, dI) vwCl (tyy cI cJ cZ cM) [(h, .inr (7, oM r i j)), ((r 18), .inl (cI, 2, .inl f18))] [.ref h, .int x1, .int 1] 0 0 (fun (u9 : Unit) => [(h, .inr (7, oM r i j)), ((r 18), .inl (cI, 2, .inl f18))]) (fun (r9 : Int32) (u9 : Unit) => (r9 = (f18 x1.toNatClampNeg))) := by
  refine fun sz => k_enter (cc := cX7_manyOf) (maxL := 3) (ret := some (.int)) (Qc := fun A => va_Qi (fun (r9 : Int32) (u9 : Unit) => (r9 = (f18 x1.toNatClampNeg))) (fun u => k_B (dC, dI) vwCl (tyy cI cJ cZ cM) A ((fun (u9 : Unit) => [(h, .inr (7, oM r i j)), ((r 18), .inl (cI, 2, .inl f18))]) u)) A) sz (by decide +kernel) rfl (Nat.le_of_ble_eq_true rfl) (fun p e s m args below meth c A ls H locs B hP hD hS hl => ?_)
  obtain ⟨hx, hb, hml, hown, hts, hr, hlk, hnm, hK, hA, hN, hC⟩ := id B
  have hown : s.vm.findClass RX7 = some m.cls := hown
  have hl : lv_has ls 3 [(0, .ref h), (1, .int x1), (2, .int 1)] := hl
  have w_0 : (Cond.fieldLink RX7 66 "WishSeaModel" "wishes" "[I").before args s = true := hts _ (List.mem_of_getElem? (i := 2) rfl)
  have hinX7 : ∀ w ∈ u_ws RX7 TX7 92, w ∈ wsX7_manyOf := fun _ h => List.mem_cons_of_mem _ (List.mem_append_right _ h)
  refine lv_iload_n hx hb dX7_manyOf_0 rfl (lv_at hl 2 rfl) ?_
  refine lv_if_ne (tgt := 13) hx hb dX7_manyOf_1 (by decide) (fun _ => ?_) (fun q9 => absurd q9 (by decide +kernel))
  refine lv_aload_n hx hb dX7_manyOf_13 rfl (lv_at hl 0 rfl) ?_
  refine k_get (D := (dC, dI)) (ci := 7) (v := .ref (r 18)) (C := RX7) (T := TX7) (N := 92) hx hb hts hinX7 hown hK hP 0 rfl rfl 18 (by decide) w_0 rfl rfl dX7_manyOf_14 ?_
  refine lv_iload_n hx hb dX7_manyOf_17 rfl (lv_at hl 1 rfl) ?_
  refine va_iald hx hb hK hP 1 0 rfl rfl (iR_vp hx1 (by decide +kernel)) dX7_manyOf_18 ?_
  have f_18_1 : iR (f18 x1.toNatClampNeg) 0 12 := hf18 _
  exact k_ri B hP hD hS dX7_manyOf_19 () [0, 1] rfl rfl rfl (Nat.le_of_ble_eq_true rfl) (Nat.le_of_ble_eq_true rfl) rfl
set_option maxHeartbeats 8000000 in
set_option maxRecDepth 100000 in
theorem s_X7_nameOf_v5 (l : Launch) (dC : Nat → ClassId) (dI : Nat → Nat → Nat) (cI cJ cZ cM : ClassId) (h : Nat) (r : Nat → Nat) (i : Nat → Int32) (j : Nat → Int64) (x1 : Int32) (x3 : Int32) (g35 : Nat → Int64) (hx1 : iR x1 0 1) (hx3 : iR x3 0 11) (hI : mR i) : k_Ml l yX7_nameOf wsX7_nameOf ({ frames := 1, cells := 0, slots := 0, locals := 40 }) (dC, dI) vwCl (tyy cI cJ cZ cM) [(h, .inr (7, oM r i j)), ((r 35), .inl (cJ, 24, .inr (.inl g35)))] [.ref h, .int x1, .int 1, .int x3] 0 0 (fun (u9 : Unit) => [(h, .inr (7, oM r i j)), ((r 35), .inl (cJ, 24, .inr (.inl g35)))]) (fun (r9 : Int64) (u9 : Unit) => True) := by
  refine fun sz => k_enter (cc := cX7_nameOf) (maxL := 4) (ret := some (.long)) (Qc := fun A => va_Ql (fun (r9 : Int64) (u9 : Unit) => True) (fun u => k_B (dC, dI) vwCl (tyy cI cJ cZ cM) A ((fun (u9 : Unit) => [(h, .inr (7, oM r i j)), ((r 35), .inl (cJ, 24, .inr (.inl g35)))]) u)) A) sz (by decide +kernel) rfl (Nat.le_of_ble_eq_true rfl) (fun p e s m args below meth c A ls H locs B hP hD hS hl => ?_)
  obtain ⟨hx, hb, hml, hown, hts, hr, hlk, hnm, hK, hA, hN, hC⟩ := id B
  have hown : s.vm.findClass RX7 = some m.cls := hown
  have hl : lv_has ls 4 [(0, .ref h), (1, .int x1), (2, .int 1), (3, .int x3)] := hl
  have w_0 : (Cond.fieldLink RX7 118 "WishSeaModel" "wishName" "[J").before args s = true := hts _ (List.mem_of_getElem? (i := 2) rfl)
  have hinX7 : ∀ w ∈ u_ws RX7 TX7 92, w ∈ wsX7_nameOf := fun _ h => List.mem_cons_of_mem _ (List.mem_append_right _ h)
  refine lv_iload_n hx hb dX7_nameOf_0 rfl (lv_at hl 2 rfl) ?_
  refine lv_if_ne (tgt := 18) hx hb dX7_nameOf_1 (by decide) (fun _ => ?_) (fun q9 => absurd q9 (by decide +kernel))
  refine lv_aload_n hx hb dX7_nameOf_18 rfl (lv_at hl 0 rfl) ?_
  refine k_get (D := (dC, dI)) (ci := 7) (v := .ref (r 35)) (C := RX7) (T := TX7) (N := 92) hx hb hts hinX7 hown hK hP 0 rfl rfl 35 (by decide) w_0 rfl rfl dX7_nameOf_19 ?_
  refine lv_bipush (v := 12) hx hb dX7_nameOf_22 (by decide +kernel) ?_
  refine lv_iload_n hx hb dX7_nameOf_24 rfl (lv_at hl 1 rfl) ?_
  refine lv_imul hx hb dX7_nameOf_25 ?_
  refine lv_topi (fun y_25 ey_25 => ?_)
  have f_25_1 : iR y_25 0 12 := iR_mul ey_25 (iR_c (n := 12) (a := 12) (b := 12) (by decide +kernel) (by decide +kernel)) hx1 (by decide +kernel)
  refine lv_iload_n hx hb dX7_nameOf_26 rfl (lv_at hl 3 rfl) ?_
  refine lv_iadd hx hb dX7_nameOf_27 ?_
  refine lv_topi (fun y_27 ey_27 => ?_)
  have f_27_2 : iR y_27 0 23 := iR_add ey_27 f_25_1 hx3 (by decide +kernel)
  refine va_lald hx hb hK hP 1 1 rfl rfl (iR_vp f_27_2 (by decide +kernel)) dX7_nameOf_28 ?_
  exact k_rl B hP hD hS dX7_nameOf_29 () [0, 1] rfl rfl (Nat.le_of_ble_eq_true rfl) (Nat.le_of_ble_eq_true rfl) trivial
