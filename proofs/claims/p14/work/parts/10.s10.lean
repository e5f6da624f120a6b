set_option maxHeartbeats 8000000 in
set_option maxRecDepth 100000 in
theorem s_X7_add_v0 (l : Launch) (dC : Nat → ClassId) (dI : Nat → Nat → Nat) (cI cJ cZ cM : ClassId) (h : Nat) (r : Nat → Nat) (i : Nat → Int32) (j : Nat → Int64) (x1 : Int32) (x2 : Int32) (f32 : Nat → Int32) (f33 : Nat → Int32) (hm36 : iR (i 36) 0 1599) (hI : mR i) : k_Mv l yX7_add wsX7_add ({ frames := 1, cells := 0, slots := 0, locals := 40 }) (dC, dI) vwCl (tyy cI cJ cZ cM) [(h, .inr (7, oM r i j)), ((r 32), .inl (cI, 3200, .inl f32)), ((r 33), .inl (cI, 3200, .inl f33))] [.ref h, .int x1, .int x2] 0 0 (fun (u9 : SU) => [(h, .inr (7, oM r (upd i 36 (u9.1 0)) j)), ((r 32), .inl (cI, 3200, .inl (u9.2.2.1 0))), ((r 33), .inl (cI, 3200, .inl (u9.2.2.1 1)))]) (fun (u9 : SU) => (iR (u9.1 0) 1 1600) ∧ ((u9.2.2.1 0) = upd f32 (1600 * (i 37).toInt.toNat + (i 36).toInt.toNat) x1) ∧ ((u9.1 0).toInt = (i 36).toInt + 1) ∧ (FRw 1600 (u9.2.2.1 0) f32 (i 37).toInt.toNat)) := by
  refine fun sz => k_enter (cc := cX7_add) (maxL := 3) (ret := none) (Qc := fun A => va_Qv (fun (u9 : SU) => (iR (u9.1 0) 1 1600) ∧ ((u9.2.2.1 0) = upd f32 (1600 * (i 37).toInt.toNat + (i 36).toInt.toNat) x1) ∧ ((u9.1 0).toInt = (i 36).toInt + 1) ∧ (FRw 1600 (u9.2.2.1 0) f32 (i 37).toInt.toNat)) (fun u => k_B (dC, dI) vwCl (tyy cI cJ cZ cM) A ((fun (u9 : SU) => [(h, .inr (7, oM r (upd i 36 (u9.1 0)) j)), ((r 32), .inl (cI, 3200, .inl (u9.2.2.1 0))), ((r 33), .inl (cI, 3200, .inl (u9.2.2.1 1)))]) u)) A) sz (by decide +kernel) rfl (Nat.le_of_ble_eq_true rfl) (fun p e s m args below meth c A ls H locs B hP hD hS hl => ?_)
  obtain ⟨hx, hb, hml, hown, hts, hr, hlk, hnm, hK, hA, hN, hC⟩ := id B
  have hown : s.vm.findClass RX7 = some m.cls := hown
  have hl : lv_has ls 3 [(0, .ref h), (1, .int x1), (2, .int x2)] := hl
  have w_0 : (Cond.fieldLink RX7 108 "WishSeaModel" "codeSort" "[I").before args s = true := hts _ (List.mem_of_getElem? (i := 1) rfl)
  have w_1 : (Cond.fieldLink RX7 124 "WishSeaModel" "in" "I").before args s = true := hts _ (List.mem_of_getElem? (i := 2) rfl)
  have w_2 : (Cond.fieldLink RX7 121 "WishSeaModel" "codes" "I").before args s = true := hts _ (List.mem_of_getElem? (i := 3) rfl)
  have w_3 : (Cond.fieldLink RX7 111 "WishSeaModel" "codeValue" "[I").before args s = true := hts _ (List.mem_of_getElem? (i := 4) rfl)
  have hinX7 : ∀ w ∈ u_ws RX7 TX7 92, w ∈ wsX7_add := fun _ h => List.mem_cons_of_mem _ (List.mem_append_right _ h)
  refine lv_aload_n hx hb dX7_add_0 rfl (lv_at hl 0 rfl) ?_
  refine k_get (D := (dC, dI)) (ci := 7) (v := .ref (r 32)) (C := RX7) (T := TX7) (N := 92) hx hb hts hinX7 hown hK hP 0 rfl rfl 32 (by decide) w_0 rfl rfl dX7_add_1 ?_
  refine lv_sipush (v := 1600) hx hb dX7_add_4 (by decide +kernel) ?_
  refine lv_aload_n hx hb dX7_add_7 rfl (lv_at hl 0 rfl) ?_
  have f_8_1 : iR (i 37) 0 1 := hI 37
  refine k_get (D := (dC, dI)) (ci := 7) (v := .int (i 37)) (C := RX7) (T := TX7) (N := 92) hx hb hts hinX7 hown hK hP 0 rfl rfl 37 (by decide) w_1 rfl rfl dX7_add_8 ?_
  refine lv_imul hx hb dX7_add_11 ?_
  refine lv_topi (fun y_11 ey_11 => ?_)
  have xy_11 : y_11.toInt = 1600 * (i 37).toInt := i_mul ey_11 (iR_c (n := 1600) (a := 1600) (b := 1600) (by decide +kernel) (by decide +kernel)) f_8_1 (by decide +kernel)
  have f_11_2 : iR y_11 0 1600 := iR_mul ey_11 (iR_c (n := 1600) (a := 1600) (b := 1600) (by decide +kernel) (by decide +kernel)) f_8_1 (by decide +kernel)
  refine lv_aload_n hx hb dX7_add_12 rfl (lv_at hl 0 rfl) ?_
  refine k_get (D := (dC, dI)) (ci := 7) (v := .int (i 36)) (C := RX7) (T := TX7) (N := 92) hx hb hts hinX7 hown hK hP 0 rfl rfl 36 (by decide) w_2 rfl rfl dX7_add_13 ?_
  refine lv_iadd hx hb dX7_add_16 ?_
  refine lv_topi (fun y_16 ey_16 => ?_)
  have xy_16 : y_16.toInt = y_11.toInt + (i 36).toInt := i_add ey_16 f_11_2 hm36 (by decide +kernel)
  have f_16_3 : iR y_16 0 3199 := iR_add ey_16 f_11_2 hm36 (by decide +kernel)
  refine lv_iload_n hx hb dX7_add_17 rfl (lv_at hl 1 rfl) ?_
  refine s_iast (g := (upd f32 y_16.toNatClampNeg x1)) (ws' := [(h, .inr (7, oM r i j)), ((r 32), .inl (cI, 3200, .inl (upd f32 y_16.toNatClampNeg x1))), ((r 33), .inl (cI, 3200, .inl f33))]) hx hb hK hP hD hS 1 0 rfl rfl (iR_vp f_16_3 (by decide +kernel)) rfl rfl dX7_add_18 (fun H locs hP hD hS => ?_)
  refine lv_aload_n hx hb dX7_add_19 rfl (lv_at hl 0 rfl) ?_
  refine k_get (D := (dC, dI)) (ci := 7) (v := .ref (r 33)) (C := RX7) (T := TX7) (N := 92) hx hb hts hinX7 hown hK hP 0 rfl rfl 33 (by decide) w_3 rfl rfl dX7_add_20 ?_
  refine lv_sipush (v := 1600) hx hb dX7_add_23 (by decide +kernel) ?_
  refine lv_aload_n hx hb dX7_add_26 rfl (lv_at hl 0 rfl) ?_
  refine k_get (D := (dC, dI)) (ci := 7) (v := .int (i 37)) (C := RX7) (T := TX7) (N := 92) hx hb hts hinX7 hown hK hP 0 rfl rfl 37 (by decide) w_1 rfl rfl dX7_add_27 ?_
  refine lv_imul hx hb dX7_add_30 ?_
  refine lv_topi (fun y_30 ey_30 => ?_)
  have xy_30 : y_30.toInt = 1600 * (i 37).toInt := i_mul ey_30 (iR_c (n := 1600) (a := 1600) (b := 1600) (by decide +kernel) (by decide +kernel)) f_8_1 (by decide +kernel)
  have f_30_4 : iR y_30 0 1600 := iR_mul ey_30 (iR_c (n := 1600) (a := 1600) (b := 1600) (by decide +kernel) (by decide +kernel)) f_8_1 (by decide +kernel)
  refine lv_aload_n hx hb dX7_add_31 rfl (lv_at hl 0 rfl) ?_
  refine k_get (D := (dC, dI)) (ci := 7) (v := .int (i 36)) (C := RX7) (T := TX7) (N := 92) hx hb hts hinX7 hown hK hP 0 rfl rfl 36 (by decide) w_2 rfl rfl dX7_add_32 ?_
  refine lv_iadd hx hb dX7_add_35 ?_
  refine lv_topi (fun y_35 ey_35 => ?_)
  have xy_35 : y_35.toInt = y_30.toInt + (i 36).toInt := i_add ey_35 f_30_4 hm36 (by decide +kernel)
  have f_35_5 : iR y_35 0 3199 := iR_add ey_35 f_30_4 hm36 (by decide +kernel)
  refine lv_iload_n hx hb dX7_add_36 rfl (lv_at hl 2 rfl) ?_
  refine s_iast (g := (upd f33 y_35.toNatClampNeg x2)) (ws' := [(h, .inr (7, oM r i j)), ((r 32), .inl (cI, 3200, .inl (upd f32 y_16.toNatClampNeg x1))), ((r 33), .inl (cI, 3200, .inl (upd f33 y_35.toNatClampNeg x2)))]) hx hb hK hP hD hS 2 0 rfl rfl (iR_vp f_35_5 (by decide +kernel)) rfl rfl dX7_add_37 (fun H locs hP hD hS => ?_)
  refine lv_aload_n hx hb dX7_add_38 rfl (lv_at hl 0 rfl) ?_
  refine lv_dup hx hb dX7_add_39 rfl ?_
  refine k_get (D := (dC, dI)) (ci := 7) (v := .int (i 36)) (C := RX7) (T := TX7) (N := 92) hx hb hts hinX7 hown hK hP 0 rfl rfl 36 (by decide) w_2 rfl rfl dX7_add_40 ?_
  refine lv_iconst (v := 1) hx hb dX7_add_43 (by decide +kernel) ?_
  refine lv_iadd hx hb dX7_add_44 ?_
  refine lv_topi (fun y_44 ey_44 => ?_)
  have xy_44 : y_44.toInt = (i 36).toInt + 1 := i_add ey_44 hm36 (iR_c (n := 1) (a := 1) (b := 1) (by decide +kernel) (by decide +kernel)) (by decide +kernel)
  have f_44_6 : iR y_44 1 1600 := iR_add ey_44 hm36 (iR_c (n := 1) (a := 1) (b := 1) (by decide +kernel) (by decide +kernel)) (by decide +kernel)
  refine k_put (D := (dC, dI)) (ci := 7) (v := .int y_44) (C := RX7) (T := TX7) (N := 92) (ws' := [(h, .inr (7, oM r (upd i 36 y_44) j)), ((r 32), .inl (cI, 3200, .inl (upd f32 y_16.toNatClampNeg x1))), ((r 33), .inl (cI, 3200, .inl (upd f33 y_35.toNatClampNeg x2)))]) hx hb hts hinX7 tyX7 tyX7_ok nmX7 hown hK hP hD hS 0 rfl rfl 36 (by decide) w_2 rfl rfl rfl rfl (Nat.le_of_ble_eq_true rfl) rfl dX7_add_45 (fun H locs hP hD hS => ?_)
  exact k_rv B hP hD hS dX7_add_48 ((fun k9 => match k9 with | 0 => y_44 | _ => 0), (fun _ => 0), (fun k9 => match k9 with | 0 => (upd f32 y_16.toNatClampNeg x1) | 1 => (upd f33 y_35.toNatClampNeg x2) | _ => (fun _ => 0)), (fun _ => (fun _ => 0)), (fun _ => 0)) [0, 1, 2] rfl rfl (Nat.le_of_ble_eq_true rfl) (Nat.le_of_ble_eq_true rfl) ⟨(show iR y_44 1 1600 from f_44_6), (show (upd f32 y_16.toNatClampNeg x1) = upd f32 (1600 * (i 37).toInt.toNat + (i 36).toInt.toNat) x1 from (by have e9 : y_16.toNatClampNeg = 1600 * (i 37).toInt.toNat + (i 36).toInt.toNat := (by have q0 := iR_cn f_16_3 (by decide +kernel); have q1 := iR_cn (hI 36) (by decide); have q2 : 0 ≤ (i 37).toInt ∧ (i 37).toInt ≤ 1 := hI 37; have q3 : 0 ≤ (i 36).toInt ∧ (i 36).toInt ≤ 1600 := hI 36; omega); rw [e9])), (show y_44.toInt = (i 36).toInt + 1 from (by have q0 : 1 ≤ y_44.toInt ∧ y_44.toInt ≤ 1600 := f_44_6; have q1 : 0 ≤ (i 36).toInt ∧ (i 36).toInt ≤ 1599 := hm36; omega)), (show FRw 1600 (upd f32 y_16.toNatClampNeg x1) f32 (i 37).toInt.toNat from (FRw_upd _ (by have q8 := iR_cn f_16_3 (by decide +kernel); have q9 : 0 ≤ (i 37).toInt ∧ (i 37).toInt ≤ 1 := hI 37; have q0 : 0 ≤ y_16.toInt ∧ y_16.toInt ≤ 3199 := f_16_3; have q1 : 0 ≤ y_11.toInt ∧ y_11.toInt ≤ 1600 := f_11_2; have q2 : 0 ≤ (i 36).toInt ∧ (i 36).toInt ≤ 1599 := hm36; have q3 : 0 ≤ (i 37).toInt ∧ (i 37).toInt ≤ 1 := f_8_1; omega) FRw_refl))⟩
set_option maxHeartbeats 8000000 in
set_option maxRecDepth 100000 in
theorem s_X7_add_v1 (l : Launch) (dC : Nat → ClassId) (dI : Nat → Nat → Nat) (cI cJ cZ cM : ClassId) (h : Nat) (r : Nat → Nat) (i : Nat → Int32) (j : Nat → Int64) (x1 : Int32) (x2 : Int32) (f32 : Nat → Int32) (f33 : Nat → Int32) (hm36 : iR (i 36) 0 1599) (hI : mR i) : k_Mv l yX7_add wsX7_add ({ frames := 1, cells := 0, slots := 0, locals := 40 }) (dC, dI) vwCl (tyy cI cJ cZ cM) [(h, .inr (7, oM r i j)), ((r 32), .inl (cI, 3200, .inl f32)), ((r 33), .inl (cI, 3200, .inl f33))] [.ref h, .int x1, .int x2] 0 0 (fun (u9 : SU) => [(h, .inr (7, oM r (upd i 36 (u9.1 0)) j)), ((r 32), .inl (cI, 3200, .inl (u9.2.2.1 0))), ((r 33), .inl (cI, 3200, .inl (u9.2.2.1 1)))]) (fun (u9 : SU) => (iR (u9.1 0) 1 1600) ∧ ((u9.2.2.1 0) = upd f32 (1600 * (i 37).toInt.toNat + (i 36).toInt.toNat) x1) ∧ ((u9.1 0).toInt = (i 36).toInt + 1) ∧ (FRw 1600 (u9.2.2.1 0) f32 (i 37).toInt.toNat)) := by
  refine fun sz => k_enter (cc := cX7_add) (maxL := 3) (ret := none) (Qc := fun A => va_Qv (fun (u9 : SU) => (iR (u9.1 0) 1 1600) ∧ ((u9.2.2.1 0) = upd f32 (1600 * (i 37).toInt.toNat + (i 36).toInt.toNat) x1) ∧ ((u9.1 0).toInt = (i 36).toInt + 1) ∧ (FRw 1600 (u9.2.2.1 0) f32 (i 37).toInt.toNat)) (fun u => k_B (dC, dI) vwCl (tyy cI cJ cZ cM) A ((fun (u9 : SU) => [(h, .inr (7, oM r (upd i 36 (u9.1 0)) j)), ((r 32), .inl (cI, 3200, .inl (u9.2.2.1 0))), ((r 33), .inl (cI, 3200, .inl (u9.2.2.1 1)))]) u)) A) sz (by decide +kernel) rfl (Nat.le_of_ble_eq_true rfl) (fun p e s m args below meth c A ls H locs B hP hD hS hl => ?_)
  obtain ⟨hx, hb, hml, hown, hts, hr, hlk, hnm, hK, hA, hN, hC⟩ := id B
  have hown : s.vm.findClass RX7 = some m.cls := hown
  have hl : lv_has ls 3 [(0, .ref h), (1, .int x1), (2, .int x2)] := hl
  have w_0 : (Cond.fieldLink RX7 108 "WishSeaModel" "codeSort" "[I").before args s = true := hts _ (List.mem_of_getElem? (i := 1) rfl)
  have w_1 : (Cond.fieldLink RX7 124 "WishSeaModel" "in" "I").before args s = true := hts _ (List.mem_of_getElem? (i := 2) rfl)
  have w_2 : (Cond.fieldLink RX7 121 "WishSeaModel" "codes" "I").before args s = true := hts _ (List.mem_of_getElem? (i := 3) rfl)
  have w_3 : (Cond.fieldLink RX7 111 "WishSeaModel" "codeValue" "[I").before args s = true := hts _ (List.mem_of_getElem? (i := 4) rfl)
  have hinX7 : ∀ w ∈ u_ws RX7 TX7 92, w ∈ wsX7_add := fun _ h => List.mem_cons_of_mem _ (List.mem_append_right _ h)
  refine lv_aload_n hx hb dX7_add_0 rfl (lv_at hl 0 rfl) ?_
  refine k_get (D := (dC, dI)) (ci := 7) (v := .ref (r 32)) (C := RX7) (T := TX7) (N := 92) hx hb hts hinX7 hown hK hP 0 rfl rfl 32 (by decide) w_0 rfl rfl dX7_add_1 ?_
  refine lv_sipush (v := 1600) hx hb dX7_add_4 (by decide +kernel) ?_
  refine lv_aload_n hx hb dX7_add_7 rfl (lv_at hl 0 rfl) ?_
  have f_8_1 : iR (i 37) 0 1 := hI 37
  refine k_get (D := (dC, dI)) (ci := 7) (v := .int (i 37)) (C := RX7) (T := TX7) (N := 92) hx hb hts hinX7 hown hK hP 0 rfl rfl 37 (by decide) w_1 rfl rfl dX7_add_8 ?_
  refine lv_imul hx hb dX7_add_11 ?_
  refine lv_topi (fun y_11 ey_11 => ?_)
  have xy_11 : y_11.toInt = 1600 * (i 37).toInt := i_mul ey_11 (iR_c (n := 1600) (a := 1600) (b := 1600) (by decide +kernel) (by decide +kernel)) f_8_1 (by decide +kernel)
  have f_11_2 : iR y_11 0 1600 := iR_mul ey_11 (iR_c (n := 1600) (a := 1600) (b := 1600) (by decide +kernel) (by decide +kernel)) f_8_1 (by decide +kernel)
  refine lv_aload_n hx hb dX7_add_12 rfl (lv_at hl 0 rfl) ?_
  refine k_get (D := (dC, dI)) (ci := 7) (v := .int (i 36)) (C := RX7) (T := TX7) (N := 92) hx hb hts hinX7 hown hK hP 0 rfl rfl 36 (by decide) w_2 rfl rfl dX7_add_13 ?_
  refine lv_iadd hx hb dX7_add_16 ?_
  refine lv_topi (fun y_16 ey_16 => ?_)
  have xy_16 : y_16.toInt = y_11.toInt + (i 36).toInt := i_add ey_16 f_11_2 hm36 (by decide +kernel)
  have f_16_3 : iR y_16 0 3199 := iR_add ey_16 f_11_2 hm36 (by decide +kernel)
  refine lv_iload_n hx hb dX7_add_17 rfl (lv_at hl 1 rfl) ?_
  refine s_iast (g := (upd f32 y_16.toNatClampNeg x1)) (ws' := [(h, .inr (7, oM r i j)), ((r 32), .inl (cI, 3200, .inl (upd f32 y_16.toNatClampNeg x1))), ((r 33), .inl (cI, 3200, .inl f33))]) hx hb hK hP hD hS 1 0 rfl rfl (iR_vp f_16_3 (by decide +kernel)) rfl rfl dX7_add_18 (fun H locs hP hD hS => ?_)
  refine lv_aload_n hx hb dX7_add_19 rfl (lv_at hl 0 rfl) ?_
  refine k_get (D := (dC, dI)) (ci := 7) (v := .ref (r 33)) (C := RX7) (T := TX7) (N := 92) hx hb hts hinX7 hown hK hP 0 rfl rfl 33 (by decide) w_3 rfl rfl dX7_add_20 ?_
  refine lv_sipush (v := 1600) hx hb dX7_add_23 (by decide +kernel) ?_
  refine lv_aload_n hx hb dX7_add_26 rfl (lv_at hl 0 rfl) ?_
  refine k_get (D := (dC, dI)) (ci := 7) (v := .int (i 37)) (C := RX7) (T := TX7) (N := 92) hx hb hts hinX7 hown hK hP 0 rfl rfl 37 (by decide) w_1 rfl rfl dX7_add_27 ?_
  refine lv_imul hx hb dX7_add_30 ?_
  refine lv_topi (fun y_30 ey_30 => ?_)
  have xy_30 : y_30.toInt = 1600 * (i 37).toInt := i_mul ey_30 (iR_c (n := 1600) (a := 1600) (b := 1600) (by decide +kernel) (by decide +kernel)) f_8_1 (by decide +kernel)
  have f_30_4 : iR y_30 0 1600 := iR_mul ey_30 (iR_c (n := 1600) (a := 1600) (b := 1600) (by decide +kernel) (by decide +kernel)) f_8_1 (by decide +kernel)
  refine lv_aload_n hx hb dX7_add_31 rfl (lv_at hl 0 rfl) ?_
  refine k_get (D := (dC, dI)) (ci := 7) (v := .int (i 36)) (C := RX7) (T := TX7) (N := 92) hx hb hts hinX7 hown hK hP 0 rfl rfl 36 (by decide) w_2 rfl rfl dX7_add_32 ?_
  refine lv_iadd hx hb dX7_add_35 ?_
  refine lv_topi (fun y_35 ey_35 => ?_)
  have xy_35 : y_35.toInt = y_30.toInt + (i 36).toInt := i_add ey_35 f_30_4 hm36 (by decide +kernel)
  have f_35_5 : iR y_35 0 3199 := iR_add ey_35 f_30_4 hm36 (by decide +kernel)
  refine lv_iload_n hx hb dX7_add_36 rfl (lv_at hl 2 rfl) ?_
  refine s_iast (g := (upd f33 y_35.toNatClampNeg x2)) (ws' := [(h, .inr (7, oM r i j)), ((r 32), .inl (cI, 3200, .inl (upd f32 y_16.toNatClampNeg x1))), ((r 33), .inl (cI, 3200, .inl (upd f33 y_35.toNatClampNeg x2)))]) hx hb hK hP hD hS 2 0 rfl rfl (iR_vp f_35_5 (by decide +kernel)) rfl rfl dX7_add_37 (fun H locs hP hD hS => ?_)
  refine lv_aload_n hx hb dX7_add_38 rfl (lv_at hl 0 rfl) ?_
  refine lv_dup hx hb dX7_add_39 rfl ?_
  refine k_get (D := (dC, dI)) (ci := 7) (v := .int (i 36)) (C := RX7) (T := TX7) (N := 92) hx hb hts hinX7 hown hK hP 0 rfl rfl 36 (by decide) w_2 rfl rfl dX7_add_40 ?_
  refine lv_iconst (v := 1) hx hb dX7_add_43 (by decide +kernel) ?_
  refine lv_iadd hx hb dX7_add_44 ?_
  refine lv_topi (fun y_44 ey_44 => ?_)
  have xy_44 : y_44.toInt = (i 36).toInt + 1 := i_add ey_44 hm36 (iR_c (n := 1) (a := 1) (b := 1) (by decide +kernel) (by decide +kernel)) (by decide +kernel)
  have f_44_6 : iR y_44 1 1600 := iR_add ey_44 hm36 (iR_c (n := 1) (a := 1) (b := 1) (by decide +kernel) (by decide +kernel)) (by decide +kernel)
  refine k_put (D := (dC, dI)) (ci := 7) (v := .int y_44) (C := RX7) (T := TX7) (N := 92) (ws' := [(h, .inr (7, oM r (upd i 36 y_44) j)), ((r 32), .inl (cI, 3200, .inl (upd f32 y_16.toNatClampNeg x1))), ((r 33), .inl (cI, 3200, .inl (upd f33 y_35.toNatClampNeg x2)))]) hx hb hts hinX7 tyX7 tyX7_ok nmX7 hown hK hP hD hS 0 rfl rfl 36 (by decide) w_2 rfl rfl rfl rfl (Nat.le_of_ble_eq_true rfl) rfl dX7_add_45 (fun H locs hP hD hS => ?_)
  exact k_rv B hP hD hS dX7_add_48 ((fun k9 => match k9 with | 0 => y_44 | _ => 0), (fun _ => 0), (fun k9 => match k9 with | 0 => (upd f32 y_16.toNatClampNeg x1) | 1 => (upd f33 y_35.toNatClampNeg x2) | _ => (fun _ => 0)), (fun _ => (fun _ => 0)), (fun _ => 0)) [0, 1, 2] rfl rfl (Nat.le_of_ble_eq_true rfl) (Nat.le_of_ble_eq_true rfl) ⟨(show iR y_44 1 1600 from f_44_6), (show (upd f32 y_16.toNatClampNeg x1) = upd f32 (1600 * (i 37).toInt.toNat + (i 36).toInt.toNat) x1 from (by have e9 : y_16.toNatClampNeg = 1600 * (i 37).toInt.toNat + (i 36).toInt.toNat := (by have q0 := iR_cn f_16_3 (by decide +kernel); have q1 := iR_cn (hI 36) (by decide); have q2 : 0 ≤ (i 37).toInt ∧ (i 37).toInt ≤ 1 := hI 37; have q3 : 0 ≤ (i 36).toInt ∧ (i 36).toInt ≤ 1600 := hI 36; omega); rw [e9])), (show y_44.toInt = (i 36).toInt + 1 from (by have q0 : 1 ≤ y_44.toInt ∧ y_44.toInt ≤ 1600 := f_44_6; have q1 : 0 ≤ (i 36).toInt ∧ (i 36).toInt ≤ 1599 := hm36; omega)), (show FRw 1600 (upd f32 y_16.toNatClampNeg x1) f32 (i 37).toInt.toNat from (FRw_upd _ (by have q8 := iR_cn f_16_3 (by decide +kernel); have q9 : 0 ≤ (i 37).toInt ∧ (i 37).toInt ≤ 1 := hI 37; have q0 : 0 ≤ y_16.toInt ∧ y_16.toInt ≤ 3199 := f_16_3; have q1 : 0 ≤ y_11.toInt ∧ y_11.toInt ≤ 1600 := f_11_2; have q2 : 0 ≤ (i 36).toInt ∧ (i 36).toInt ≤ 1599 := hm36; have q3 : 0 ≤ (i 37).toInt ∧ (i 37).toInt ≤ 1 := f_8_1; omega) FRw_refl))⟩
set_option maxHeartbeats 8000000 in
set_option maxRecDepth 100000 in
theorem s_X7_joins_v0 (l : Launch) (dC : Nat → ClassId) (dI : Nat → Nat → Nat) (cI cJ cZ cM : ClassId) (h : Nat) (r : Nat → Nat) (i : Nat → Int32) (j : Nat → Int64) (x1 : Int32) (f32 : Nat → Int32) (f33 : Nat → Int32) (f38 : Nat → Int32) (f39 : Nat → Int32) (f40 : Nat → Int32) (f41 : Nat → Int32) (f42 : Nat → Int32) (f45 : Nat → Int32) (c0 : Nat) (hI : mR i) (hf40 : aR f40 0 1) (hpx : PX f38 f39 f40 f41 f42 f45 f32 (i 43).toInt.toNat (i 46).toInt.toNat (i 44).toInt (i 36).toInt.toNat (i 37).toInt.toNat (i 4).toInt 1 c0) : k_Mv l yX7_joins wsX7_joins ({ frames := 2, cells := 0, slots := 0, locals := 62 }) (dC, dI) vwCl (tyy cI cJ cZ cM) [(h, .inr (7, oM r i j)), ((r 32), .inl (cI, 3200, .inl f32)), ((r 33), .inl (cI, 3200, .inl f33)), ((r 42), .inl (cI, 20, .inl f42)), ((r 45), .inl (cI, 500, .inl f45))] [.ref h, .int x1] 0 0 (fun (u9 : SU) => [(h, .inr (7, oM r (upd (upd (upd i 36 (u9.1 0)) 44 (u9.1 1)) 46 (u9.1 2)) j)), ((r 32), .inl (cI, 3200, .inl (u9.2.2.1 0))), ((r 33), .inl (cI, 3200, .inl (u9.2.2.1 1))), ((r 42), .inl (cI, 20, .inl f42)), ((r 45), .inl (cI, 500, .inl f45))]) (fun (u9 : SU) => (iR (u9.1 0) 0 1600) ∧ (iR (u9.1 1) 0 7) ∧ (iR (u9.1 2) 0 47) ∧ (PX f38 f39 f40 f41 f42 f45 (u9.2.2.1 0) (i 43).toInt.toNat (u9.1 2).toInt.toNat (u9.1 1).toInt (u9.1 0).toInt.toNat (i 37).toInt.toNat (i 4).toInt 1 c0) ∧ ((f42 ((i 43).toInt.toNat - 1)).toInt = (u9.1 2).toInt ∨ (1 ≤ (u9.1 2).toInt.toNat ∧ rkz (f45 ((u9.1 2).toInt.toNat - 1)).toInt < x1.toInt)) ∧ (FRw 1600 (u9.2.2.1 0) f32 (i 37).toInt.toNat)) := by
  refine fun sz => k_enter (cc := cX7_joins) (maxL := 2) (ret := none) (Qc := fun A => va_Qv (fun (u9 : SU) => (iR (u9.1 0) 0 1600) ∧ (iR (u9.1 1) 0 7) ∧ (iR (u9.1 2) 0 47) ∧ (PX f38 f39 f40 f41 f42 f45 (u9.2.2.1 0) (i 43).toInt.toNat (u9.1 2).toInt.toNat (u9.1 1).toInt (u9.1 0).toInt.toNat (i 37).toInt.toNat (i 4).toInt 1 c0) ∧ ((f42 ((i 43).toInt.toNat - 1)).toInt = (u9.1 2).toInt ∨ (1 ≤ (u9.1 2).toInt.toNat ∧ rkz (f45 ((u9.1 2).toInt.toNat - 1)).toInt < x1.toInt)) ∧ (FRw 1600 (u9.2.2.1 0) f32 (i 37).toInt.toNat)) (fun u => k_B (dC, dI) vwCl (tyy cI cJ cZ cM) A ((fun (u9 : SU) => [(h, .inr (7, oM r (upd (upd (upd i 36 (u9.1 0)) 44 (u9.1 1)) 46 (u9.1 2)) j)), ((r 32), .inl (cI, 3200, .inl (u9.2.2.1 0))), ((r 33), .inl (cI, 3200, .inl (u9.2.2.1 1))), ((r 42), .inl (cI, 20, .inl f42)), ((r 45), .inl (cI, 500, .inl f45))]) u)) A) sz (by decide +kernel) rfl (Nat.le_of_ble_eq_true rfl) (fun p e s m args below meth c A ls H locs B hP hD hS hl => ?_)
  obtain ⟨hx, hb, hml, hown, hts, hr, hlk, hnm, hK, hA, hN, hC⟩ := id B
  have hown : s.vm.findClass RX7 = some m.cls := hown
  have hl : lv_has ls 2 [(0, .ref h), (1, .int x1)] := hl
  have w_0 : (Cond.fieldLink RX7 152 "WishSeaModel" "opMany" "I").before args s = true := hts _ (List.mem_of_getElem? (i := 1) rfl)
  have w_1 : (Cond.fieldLink RX7 140 "WishSeaModel" "base" "[I").before args s = true := hts _ (List.mem_of_getElem? (i := 2) rfl)
  have w_2 : (Cond.fieldLink RX7 143 "WishSeaModel" "deep" "I").before args s = true := hts _ (List.mem_of_getElem? (i := 3) rfl)
  have w_3 : (Cond.fieldLink RX7 149 "WishSeaModel" "ops" "[I").before args s = true := hts _ (List.mem_of_getElem? (i := 4) rfl)
  have w_4 : (Cond.fieldLink RX7 146 "WishSeaModel" "open" "I").before args s = true := hts _ (List.mem_of_getElem? (i := 5) rfl)
  have hinX7 : ∀ w ∈ u_ws RX7 TX7 92, w ∈ wsX7_joins := fun _ h => List.mem_cons_of_mem _ (List.mem_append_right _ h)
  have J_0 : ∀ (n_0 : Nat) (j0_A1 : Nat → Int32) (j0_A2 : Nat → Int32) (j0_M0_36 : Int32) (j0_M0_44 : Int32) (j0_M0_46 : Int32) (hj0_M0_36 : iR j0_M0_36 0 1600) (hj0_M0_44 : iR j0_M0_44 (-1) 7) (hj0_M0_46 : iR j0_M0_46 0 48) (t0_fr32 : FRw 1600 j0_A1 f32 (i 37).toInt.toNat) (p0_0 : PX f38 f39 f40 f41 f42 f45 j0_A1 (i 43).toInt.toNat j0_M0_46.toInt.toNat j0_M0_44.toInt j0_M0_36.toInt.toNat (i 37).toInt.toNat (i 4).toInt 1 c0) (hm_0 : j0_M0_46.toInt.toNat < n_0) (H : Heap) (locs : List Loc) (ls : Array Slot), va_P (dC, dI) vwCl [(h, .inr (7, oM r (upd (upd (upd i 36 j0_M0_36) 44 j0_M0_44) 46 j0_M0_46) j)), ((r 32), .inl (cI, 3200, .inl j0_A1)), ((r 33), .inl (cI, 3200, .inl j0_A2)), ((r 42), .inl (cI, 20, .inl f42)), ((r 45), .inl (cI, 500, .inl f45))] H → va_D A [(h, .inr (7, oM r (upd (upd (upd i 36 j0_M0_36) 44 j0_M0_44) 46 j0_M0_46) j)), ((r 32), .inl (cI, 3200, .inl j0_A1)), ((r 33), .inl (cI, 3200, .inl j0_A2)), ((r 42), .inl (cI, 20, .inl f42)), ((r 45), .inl (cI, 500, .inl f45))] → va_S A s.heap H locs → lv_has ls 2 [(0, .ref h), (1, .int x1)] → W p l e ({ frames := 2, cells := 0, slots := 0, locals := 62 }) s m args below meth c H locs 0 0 (MQ below (va_Qv (fun (u9 : SU) => (iR (u9.1 0) 0 1600) ∧ (iR (u9.1 1) 0 7) ∧ (iR (u9.1 2) 0 47) ∧ (PX f38 f39 f40 f41 f42 f45 (u9.2.2.1 0) (i 43).toInt.toNat (u9.1 2).toInt.toNat (u9.1 1).toInt (u9.1 0).toInt.toNat (i 37).toInt.toNat (i 4).toInt 1 c0) ∧ ((f42 ((i 43).toInt.toNat - 1)).toInt = (u9.1 2).toInt ∨ (1 ≤ (u9.1 2).toInt.toNat ∧ rkz (f45 ((u9.1 2).toInt.toNat - 1)).toInt < x1.toInt)) ∧ (FRw 1600 (u9.2.2.1 0) f32 (i 37).toInt.toNat)) (fun u => k_B (dC, dI) vwCl (tyy cI cJ cZ cM) A ((fun (u9 : SU) => [(h, .inr (7, oM r (upd (upd (upd i 36 (u9.1 0)) 44 (u9.1 1)) 46 (u9.1 2)) j)), ((r 32), .inl (cI, 3200, .inl (u9.2.2.1 0))), ((r 33), .inl (cI, 3200, .inl (u9.2.2.1 1))), ((r 42), .inl (cI, 20, .inl f42)), ((r 45), .inl (cI, 500, .inl f45))]) u)) A) args s 0 0 A) (F0 m 0 ls []) := by
    intro n_0
    induction n_0 with
    | zero => intro j0_A1 j0_A2 j0_M0_36 j0_M0_44 j0_M0_46 hj0_M0_36 hj0_M0_44 hj0_M0_46 t0_fr32 p0_0 hm_0; exact absurd hm_0 (Nat.not_lt_zero _)
    | succ n_0 ih_0 =>
      intro j0_A1 j0_A2 j0_M0_36 j0_M0_44 j0_M0_46 hj0_M0_36 hj0_M0_44 hj0_M0_46 t0_fr32 p0_0 hm_0 H locs ls hP hD hS hl
      have f_0_1 : iR (i 43) 1 8 := (by have rm := PX_room p0_0; have q1 : 0 ≤ (i 43).toInt ∧ (i 43).toInt ≤ 8 := (show iR (i 43) 0 8 from hI 43); have q2 : 0 ≤ j0_M0_46.toInt ∧ j0_M0_46.toInt ≤ 48 := hj0_M0_46; have q3 : (-1) ≤ j0_M0_44.toInt ∧ j0_M0_44.toInt ≤ 7 := hj0_M0_44; have q4 : 0 ≤ j0_M0_36.toInt ∧ j0_M0_36.toInt ≤ 1600 := hj0_M0_36; show 1 ≤ (i 43).toInt ∧ (i 43).toInt ≤ 8; omega)
      have f_0_2 : iR j0_M0_46 0 47 := (by have rm := PX_room p0_0; have q1 : 0 ≤ (i 43).toInt ∧ (i 43).toInt ≤ 8 := (show iR (i 43) 0 8 from hI 43); have q2 : 0 ≤ j0_M0_46.toInt ∧ j0_M0_46.toInt ≤ 48 := hj0_M0_46; have q3 : (-1) ≤ j0_M0_44.toInt ∧ j0_M0_44.toInt ≤ 7 := hj0_M0_44; have q4 : 0 ≤ j0_M0_36.toInt ∧ j0_M0_36.toInt ≤ 1600 := hj0_M0_36; show 0 ≤ j0_M0_46.toInt ∧ j0_M0_46.toInt ≤ 47; omega)
      have f_0_3 : iR j0_M0_44 0 7 := (by have rm := PX_room p0_0; have q1 : 0 ≤ (i 43).toInt ∧ (i 43).toInt ≤ 8 := (show iR (i 43) 0 8 from hI 43); have q2 : 0 ≤ j0_M0_46.toInt ∧ j0_M0_46.toInt ≤ 48 := hj0_M0_46; have q3 : (-1) ≤ j0_M0_44.toInt ∧ j0_M0_44.toInt ≤ 7 := hj0_M0_44; have q4 : 0 ≤ j0_M0_36.toInt ∧ j0_M0_36.toInt ≤ 1600 := hj0_M0_36; show 0 ≤ j0_M0_44.toInt ∧ j0_M0_44.toInt ≤ 7; omega)
      refine lv_aload_n hx hb dX7_joins_0 rfl (lv_at hl 0 rfl) ?_
      refine k_get (D := (dC, dI)) (ci := 7) (v := .int j0_M0_46) (C := RX7) (T := TX7) (N := 92) hx hb hts hinX7 hown hK hP 0 rfl rfl 46 (by decide) w_0 rfl rfl dX7_joins_1 ?_
      refine lv_aload_n hx hb dX7_joins_4 rfl (lv_at hl 0 rfl) ?_
      refine k_get (D := (dC, dI)) (ci := 7) (v := .ref (r 42)) (C := RX7) (T := TX7) (N := 92) hx hb hts hinX7 hown hK hP 0 rfl rfl 42 (by decide) w_1 rfl rfl dX7_joins_5 ?_
      refine lv_aload_n hx hb dX7_joins_8 rfl (lv_at hl 0 rfl) ?_
      refine k_get (D := (dC, dI)) (ci := 7) (v := .int (i 43)) (C := RX7) (T := TX7) (N := 92) hx hb hts hinX7 hown hK hP 0 rfl rfl 43 (by decide) w_2 rfl rfl dX7_joins_9 ?_
      refine lv_iconst (v := 1) hx hb dX7_joins_12 (by decide +kernel) ?_
      refine lv_isub hx hb dX7_joins_13 ?_
      refine lv_topi (fun y_13 ey_13 => ?_)
      have xy_13 : y_13.toInt = (i 43).toInt - 1 := i_sub ey_13 f_0_1 (iR_c (n := 1) (a := 1) (b := 1) (by decide +kernel) (by decide +kernel)) (by decide +kernel)
      have f_13_4 : iR y_13 0 7 := iR_sub ey_13 f_0_1 (iR_c (n := 1) (a := 1) (b := 1) (by decide +kernel) (by decide +kernel)) (by decide +kernel)
      refine va_iald hx hb hK hP 3 0 rfl rfl (iR_vp f_13_4 (by decide +kernel)) dX7_joins_14 ?_
      have f_15_5 : iR (f42 y_13.toNatClampNeg) 0 47 := (by have rm := PX_room p0_0; have ei : y_13.toNatClampNeg = (i 43).toInt.toNat - 1 := (by have q0 := iR_cn f_13_4 (by decide +kernel); have q1 : 1 ≤ (i 43).toInt ∧ (i 43).toInt ≤ 8 := f_0_1; omega); rw [← ei] at rm; have q2 : 0 ≤ j0_M0_46.toInt ∧ j0_M0_46.toInt ≤ 47 := f_0_2; show 0 ≤ (f42 y_13.toNatClampNeg).toInt ∧ (f42 y_13.toNatClampNeg).toInt ≤ 47; omega)
      refine lv_icmp_le (tgt := 87) hx hb dX7_joins_15 (by decide) (fun c_15 => ?_) (fun c_15 => ?_)
      · have c_15 : j0_M0_46 ≤ (f42 y_13.toNatClampNeg) := c_15
        exact k_rv B hP hD hS dX7_joins_87 ((fun k9 => match k9 with | 0 => j0_M0_36 | 1 => j0_M0_44 | 2 => j0_M0_46 | _ => 0), (fun _ => 0), (fun k9 => match k9 with | 0 => j0_A1 | 1 => j0_A2 | _ => (fun _ => 0)), (fun _ => (fun _ => 0)), (fun _ => 0)) [0, 1, 2, 3, 4] rfl rfl (Nat.le_of_ble_eq_true rfl) (Nat.le_of_ble_eq_true rfl) ⟨(show iR j0_M0_36 0 1600 from hj0_M0_36), (show iR j0_M0_44 0 7 from f_0_3), (show iR j0_M0_46 0 47 from f_0_2), (show PX f38 f39 f40 f41 f42 f45 j0_A1 (i 43).toInt.toNat j0_M0_46.toInt.toNat j0_M0_44.toInt j0_M0_36.toInt.toNat (i 37).toInt.toNat (i 4).toInt 1 c0 from p0_0), (show (f42 ((i 43).toInt.toNat - 1)).toInt = j0_M0_46.toInt ∨ (1 ≤ j0_M0_46.toInt.toNat ∧ rkz (f45 (j0_M0_46.toInt.toNat - 1)).toInt < x1.toInt) from (Or.inl (by have rm := PX_room p0_0; have ei : y_13.toNatClampNeg = (i 43).toInt.toNat - 1 := (by have q0 := iR_cn f_13_4 (by decide +kernel); have q1 : 1 ≤ (i 43).toInt ∧ (i 43).toInt ≤ 8 := f_0_1; omega); rw [← ei] at rm ⊢; have r1 := i_ti_le rfl rfl c_15; have q2 : 0 ≤ j0_M0_46.toInt ∧ j0_M0_46.toInt ≤ 47 := f_0_2; omega))), (show FRw 1600 j0_A1 f32 (i 37).toInt.toNat from t0_fr32)⟩
      · have c_15 : (f42 y_13.toNatClampNeg) < j0_M0_46 := i_nle c_15
        have f_18_6 : iR (f42 y_13.toNatClampNeg) 0 46 := iR_ltL c_15 f_15_5 f_0_2 (by decide +kernel)
        have f_18_7 : iR j0_M0_46 1 47 := iR_ltR c_15 f_15_5 f_0_2 (by decide +kernel)
        refine lv_aload_n hx hb dX7_joins_18 rfl (lv_at hl 0 rfl) ?_
        refine k_get (D := (dC, dI)) (ci := 7) (v := .ref (r 45)) (C := RX7) (T := TX7) (N := 92) hx hb hts hinX7 hown hK hP 0 rfl rfl 45 (by decide) w_3 rfl rfl dX7_joins_19 ?_
        refine lv_aload_n hx hb dX7_joins_22 rfl (lv_at hl 0 rfl) ?_
        refine k_get (D := (dC, dI)) (ci := 7) (v := .int j0_M0_46) (C := RX7) (T := TX7) (N := 92) hx hb hts hinX7 hown hK hP 0 rfl rfl 46 (by decide) w_0 rfl rfl dX7_joins_23 ?_
        refine lv_iconst (v := 1) hx hb dX7_joins_26 (by decide +kernel) ?_
        refine lv_isub hx hb dX7_joins_27 ?_
        refine lv_topi (fun y_27 ey_27 => ?_)
        have xy_27 : y_27.toInt = j0_M0_46.toInt - 1 := i_sub ey_27 f_18_7 (iR_c (n := 1) (a := 1) (b := 1) (by decide +kernel) (by decide +kernel)) (by decide +kernel)
        have f_27_8 : iR y_27 0 46 := iR_sub ey_27 f_18_7 (iR_c (n := 1) (a := 1) (b := 1) (by decide +kernel) (by decide +kernel)) (by decide +kernel)
        refine va_iald hx hb hK hP 4 0 rfl rfl (iR_vp f_27_8 (by decide +kernel)) dX7_joins_28 ?_
        refine k_ci (wc := []) (wr := [(h, .inr (7, oM r (upd (upd (upd i 36 j0_M0_36) 44 j0_M0_44) 46 j0_M0_46) j)), ((r 32), .inl (cI, 3200, .inl j0_A1)), ((r 33), .inl (cI, 3200, .inl j0_A2)), ((r 42), .inl (cI, 20, .inl f42)), ((r 45), .inl (cI, 500, .inl f45))]) (fun hPc hDc hFc => va_runS (As := [.int (f45 y_27.toNatClampNeg)]) (rest := []) ⟨hx, hb, hml, hown, hts⟩ (s_X7_rank_v0 l dC dI cI cJ cZ cM (f45 y_27.toNatClampNeg) H.size) (va_cwS 1 hts gX7_joins_X7_rank rfl rfl rfl (by decide +kernel) ⟨(Nat.le_of_ble_eq_true rfl), (Nat.le_of_ble_eq_true rfl)⟩) (k_pS hPc hDc hK hN hC hS hFc) rfl rfl hl.1 rfl (lv_room (Nat.le_of_ble_eq_true rfl)) dX7_joins_29 ⟨(Nat.le_of_ble_eq_true rfl), (Nat.le_of_ble_eq_true rfl)⟩) hP hD hS hA [] [0, 1, 2, 3, 4] rfl rfl rfl rfl (by decide) (fun _ => rfl) 0 0 rfl rfl (fun r_29 u_29 H locs hw hP hD hS => ?_)
        obtain ⟨g_29_0, g_29_1⟩ := hw
        have hP : va_P (dC, dI) vwCl [(h, .inr (7, oM r (upd (upd (upd i 36 j0_M0_36) 44 j0_M0_44) 46 j0_M0_46) j)), ((r 32), .inl (cI, 3200, .inl j0_A1)), ((r 33), .inl (cI, 3200, .inl j0_A2)), ((r 42), .inl (cI, 20, .inl f42)), ((r 45), .inl (cI, 500, .inl f45))] H := hP
        have hD : va_D A [(h, .inr (7, oM r (upd (upd (upd i 36 j0_M0_36) 44 j0_M0_44) 46 j0_M0_46) j)), ((r 32), .inl (cI, 3200, .inl j0_A1)), ((r 33), .inl (cI, 3200, .inl j0_A2)), ((r 42), .inl (cI, 20, .inl f42)), ((r 45), .inl (cI, 500, .inl f45))] := hD
        refine lv_iload_n hx hb dX7_joins_32 rfl (lv_at hl 1 rfl) ?_
        refine lv_icmp_lt (tgt := 87) hx hb dX7_joins_33 (by decide) (fun c_33 => ?_) (fun c_33 => ?_)
        · have c_33 : r_29 < x1 := c_33
          have f_87_9 : iR x1 2 2147483647 := iR_ltR c_33 g_29_0 (iR_top _) (by decide +kernel)
          exact k_rv B hP hD hS dX7_joins_87 ((fun k9 => match k9 with | 0 => j0_M0_36 | 1 => j0_M0_44 | 2 => j0_M0_46 | _ => 0), (fun _ => 0), (fun k9 => match k9 with | 0 => j0_A1 | 1 => j0_A2 | _ => (fun _ => 0)), (fun _ => (fun _ => 0)), (fun _ => 0)) [0, 1, 2, 3, 4] rfl rfl (Nat.le_of_ble_eq_true rfl) (Nat.le_of_ble_eq_true rfl) ⟨(show iR j0_M0_36 0 1600 from hj0_M0_36), (show iR j0_M0_44 0 7 from f_0_3), (show iR j0_M0_46 0 47 from (iR_w f_18_7 (by decide +kernel))), (show PX f38 f39 f40 f41 f42 f45 j0_A1 (i 43).toInt.toNat j0_M0_46.toInt.toNat j0_M0_44.toInt j0_M0_36.toInt.toNat (i 37).toInt.toNat (i 4).toInt 1 c0 from p0_0), (show (f42 ((i 43).toInt.toNat - 1)).toInt = j0_M0_46.toInt ∨ (1 ≤ j0_M0_46.toInt.toNat ∧ rkz (f45 (j0_M0_46.toInt.toNat - 1)).toInt < x1.toInt) from (Or.inr (by have ey : y_27.toNatClampNeg = j0_M0_46.toInt.toNat - 1 := (by have q0 := iR_cn f_27_8 (by decide +kernel); have q2 : 1 ≤ j0_M0_46.toInt ∧ j0_M0_46.toInt ≤ 47 := f_18_7; omega); rw [← ey, ← g_29_1]; have r1 := i_ti_lt rfl rfl c_33; have q2 : 1 ≤ j0_M0_46.toInt ∧ j0_M0_46.toInt ≤ 47 := f_18_7; omega))), (show FRw 1600 j0_A1 f32 (i 37).toInt.toNat from t0_fr32)⟩
        · have c_33 : x1 ≤ r_29 := i_nlt c_33
          have f_36_9 : iR x1 (-2147483648) 6 := iR_leL c_33 (iR_top _) g_29_0 (by decide +kernel)
          have f_36_10 : iR j0_M0_36 0 1599 := (by have rm := PX_room p0_0; have q2 : 1 ≤ j0_M0_46.toInt ∧ j0_M0_46.toInt ≤ 47 := f_18_7; have q4 : 0 ≤ j0_M0_36.toInt ∧ j0_M0_36.toInt ≤ 1600 := hj0_M0_36; show 0 ≤ j0_M0_36.toInt ∧ j0_M0_36.toInt ≤ 1599; omega)
          refine lv_aload_n hx hb dX7_joins_36 rfl (lv_at hl 0 rfl) ?_
          refine lv_dup hx hb dX7_joins_37 rfl ?_
          refine k_get (D := (dC, dI)) (ci := 7) (v := .int j0_M0_46) (C := RX7) (T := TX7) (N := 92) hx hb hts hinX7 hown hK hP 0 rfl rfl 46 (by decide) w_0 rfl rfl dX7_joins_38 ?_
          refine lv_iconst (v := 1) hx hb dX7_joins_41 (by decide +kernel) ?_
          refine lv_isub hx hb dX7_joins_42 ?_
          refine lv_topi (fun y_42 ey_42 => ?_)
          have xy_42 : y_42.toInt = j0_M0_46.toInt - 1 := i_sub ey_42 f_18_7 (iR_c (n := 1) (a := 1) (b := 1) (by decide +kernel) (by decide +kernel)) (by decide +kernel)
          have f_42_11 : iR y_42 0 46 := iR_sub ey_42 f_18_7 (iR_c (n := 1) (a := 1) (b := 1) (by decide +kernel) (by decide +kernel)) (by decide +kernel)
          refine k_put (D := (dC, dI)) (ci := 7) (v := .int y_42) (C := RX7) (T := TX7) (N := 92) (ws' := [(h, .inr (7, oM r (upd (upd (upd i 36 j0_M0_36) 44 j0_M0_44) 46 y_42) j)), ((r 32), .inl (cI, 3200, .inl j0_A1)), ((r 33), .inl (cI, 3200, .inl j0_A2)), ((r 42), .inl (cI, 20, .inl f42)), ((r 45), .inl (cI, 500, .inl f45))]) hx hb hts hinX7 tyX7 tyX7_ok nmX7 hown hK hP hD hS 0 rfl rfl 46 (by decide) w_0 rfl rfl rfl rfl (Nat.le_of_ble_eq_true rfl) rfl dX7_joins_43 (fun H locs hP hD hS => ?_)
          refine lv_aload_n hx hb dX7_joins_46 rfl (lv_at hl 0 rfl) ?_
          refine lv_aload_n hx hb dX7_joins_47 rfl (lv_at hl 0 rfl) ?_
          refine k_get (D := (dC, dI)) (ci := 7) (v := .ref (r 45)) (C := RX7) (T := TX7) (N := 92) hx hb hts hinX7 hown hK hP 0 rfl rfl 45 (by decide) w_3 rfl rfl dX7_joins_48 ?_
          refine lv_aload_n hx hb dX7_joins_51 rfl (lv_at hl 0 rfl) ?_
          refine k_get (D := (dC, dI)) (ci := 7) (v := .int y_42) (C := RX7) (T := TX7) (N := 92) hx hb hts hinX7 hown hK hP 0 rfl rfl 46 (by decide) w_0 rfl rfl dX7_joins_52 ?_
          refine va_iald hx hb hK hP 4 0 rfl rfl (iR_vp f_42_11 (by decide +kernel)) dX7_joins_55 ?_
          refine lv_iconst (v := 0) hx hb dX7_joins_56 (by decide +kernel) ?_
          refine k_cv (wc := [(h, .inr (7, oM r (upd (upd (upd i 36 j0_M0_36) 44 j0_M0_44) 46 y_42) j)), ((r 32), .inl (cI, 3200, .inl j0_A1)), ((r 33), .inl (cI, 3200, .inl j0_A2))]) (wr := [((r 42), .inl (cI, 20, .inl f42)), ((r 45), .inl (cI, 500, .inl f45))]) (fun hPc hDc hFc => va_runV (As := [.int (f45 y_42.toNatClampNeg), .int 0]) (rest := []) ⟨hx, hb, hml, hown, hts⟩ (s_X7_add_v1 l dC dI cI cJ cZ cM h r (upd (upd (upd i 36 j0_M0_36) 44 j0_M0_44) 46 y_42) j (f45 y_42.toNatClampNeg) 0 j0_A1 j0_A2 (show iR j0_M0_36 0 1599 from f_36_10) (mR_upd 46 (mR_upd 44 (mR_upd 36 hI (show iR _ (loI 36) (hiI 36) from (iR_w f_36_10 (by decide +kernel)))) (show iR _ (loI 44) (hiI 44) from f_0_3)) (show iR _ (loI 46) (hiI 46) from (iR_w f_42_11 (by decide +kernel)))) H.size) (cwV 2 hts gX7_joins_X7_add rfl rfl rfl (by decide +kernel) ⟨(Nat.le_of_ble_eq_true rfl), (Nat.le_of_ble_eq_true rfl)⟩) (k_pV hPc hDc hK hN hC hS hFc hP (q0 := 0) (ci := 7) rfl rfl) rfl rfl hl.1 rfl (lv_room (Nat.le_of_ble_eq_true rfl)) dX7_joins_57 ⟨(Nat.le_of_ble_eq_true rfl), (Nat.le_of_ble_eq_true rfl)⟩) hP hD hS hA [0, 1, 2] [3, 4] rfl rfl rfl rfl (by decide) (fun _ => rfl) 0 0 rfl rfl (fun u_57 H locs hw hP hD hS => ?_)
          obtain ⟨g_57_0, g_57_1, g_57_2, g_57_3⟩ := hw
          have hP : va_P (dC, dI) vwCl [((r 42), .inl (cI, 20, .inl f42)), ((r 45), .inl (cI, 500, .inl f45)), (h, .inr (7, oM r (upd (upd (upd i 36 (u_57.1 0)) 44 j0_M0_44) 46 y_42) j)), ((r 32), .inl (cI, 3200, .inl (u_57.2.2.1 0))), ((r 33), .inl (cI, 3200, .inl (u_57.2.2.1 1)))] H := hP
          have hD : va_D A [((r 42), .inl (cI, 20, .inl f42)), ((r 45), .inl (cI, 500, .inl f45)), (h, .inr (7, oM r (upd (upd (upd i 36 (u_57.1 0)) 44 j0_M0_44) 46 y_42) j)), ((r 32), .inl (cI, 3200, .inl (u_57.2.2.1 0))), ((r 33), .inl (cI, 3200, .inl (u_57.2.2.1 1)))] := hD
          refine lv_aload_n hx hb dX7_joins_60 rfl (lv_at hl 0 rfl) ?_
          refine k_get (D := (dC, dI)) (ci := 7) (v := .ref (r 45)) (C := RX7) (T := TX7) (N := 92) hx hb hts hinX7 hown hK hP 2 rfl rfl 45 (by decide) w_3 rfl rfl dX7_joins_61 ?_
          refine lv_aload_n hx hb dX7_joins_64 rfl (lv_at hl 0 rfl) ?_
          refine k_get (D := (dC, dI)) (ci := 7) (v := .int y_42) (C := RX7) (T := TX7) (N := 92) hx hb hts hinX7 hown hK hP 2 rfl rfl 46 (by decide) w_0 rfl rfl dX7_joins_65 ?_
          refine va_iald hx hb hK hP 1 0 rfl rfl (iR_vp f_42_11 (by decide +kernel)) dX7_joins_68 ?_
          refine lv_bipush (v := 22) hx hb dX7_joins_69 (by decide +kernel) ?_
          refine lv_icmp_ne (tgt := 0) hx hb dX7_joins_71 (by decide) (fun c_71 => ?_) (fun c_71 => ?_)
          · have c_71 : ¬ (f45 y_42.toNatClampNeg) = 22 := c_71
            exact ih_0 (u_57.2.2.1 0) (u_57.2.2.1 1) (u_57.1 0) j0_M0_44 y_42 (iR_w g_57_0 (by decide +kernel)) (iR_w f_0_3 (by decide +kernel)) (iR_w f_42_11 (by decide +kernel)) (FRw_tr g_57_3 t0_fr32) (show PX f38 f39 f40 f41 f42 f45 (u_57.2.2.1 0) (i 43).toInt.toNat y_42.toInt.toNat j0_M0_44.toInt (u_57.1 0).toInt.toNat (i 37).toInt.toNat (i 4).toInt 1 c0 from (by have em : j0_M0_46.toInt.toNat = y_42.toInt.toNat + 1 := (by have q1 : 1 ≤ j0_M0_46.toInt ∧ j0_M0_46.toInt ≤ 47 := f_18_7; omega); have ei : y_13.toNatClampNeg = (i 43).toInt.toNat - 1 := (by have q0 := iR_cn f_13_4 (by decide +kernel); have q1 : 1 ≤ (i 43).toInt ∧ (i 43).toInt ≤ 8 := f_0_1; omega); have p0 := p0_0; rw [em] at p0; have ey : y_42.toNatClampNeg = y_42.toInt.toNat := (by have q0 := iR_cn f_42_11 (by decide +kernel); omega); have hb : (f42 ((i 43).toInt.toNat - 1)).toInt < ((y_42.toInt.toNat + 1 : Nat) : Int) := (by rw [← ei, ← em]; have r1 := i_ti_lt rfl rfl c_15; have q1 : 1 ≤ j0_M0_46.toInt ∧ j0_M0_46.toInt ≤ 47 := f_18_7; omega); have p := PX_pop p0 hb (by rw [← ey]; exact g_57_1); have ec : (u_57.1 0).toInt.toNat = j0_M0_36.toInt.toNat + 1 := (by have q4 : 0 ≤ j0_M0_36.toInt ∧ j0_M0_36.toInt ≤ 1599 := f_36_10; omega); rw [if_neg (by rw [← ey]; exact i_ti_ne rfl (by decide) c_71), Int.sub_zero] at p; rw [ec]; exact p)) (by have q1 : 0 ≤ y_42.toInt ∧ y_42.toInt ≤ 46 := f_42_11; have q2 : 1 ≤ j0_M0_46.toInt ∧ j0_M0_46.toInt ≤ 47 := f_18_7; have h9 := hm_0; omega) H locs ls (hP.sub [2, 3, 4, 0, 1] rfl) (hD.sub [2, 3, 4, 0, 1] (by decide +kernel) rfl) hS (lv_sub hl [0, 1] rfl)
          · have c_71 : (f45 y_42.toNatClampNeg) = 22 := c_71
            have f_74_12 : iR (f45 y_42.toNatClampNeg) 22 22 := iR_eqL c_71 (iR_top _) (iR_c (n := 22) (a := 22) (b := 22) (by decide +kernel) (by decide +kernel)) (by decide +kernel)
            refine lv_aload_n hx hb dX7_joins_74 rfl (lv_at hl 0 rfl) ?_
            refine lv_dup hx hb dX7_joins_75 rfl ?_
            refine k_get (D := (dC, dI)) (ci := 7) (v := .int j0_M0_44) (C := RX7) (T := TX7) (N := 92) hx hb hts hinX7 hown hK hP 2 rfl rfl 44 (by decide) w_4 rfl rfl dX7_joins_76 ?_
            refine lv_iconst (v := 1) hx hb dX7_joins_79 (by decide +kernel) ?_
            refine lv_isub hx hb dX7_joins_80 ?_
            refine lv_topi (fun y_80 ey_80 => ?_)
            have xy_80 : y_80.toInt = j0_M0_44.toInt - 1 := i_sub ey_80 f_0_3 (iR_c (n := 1) (a := 1) (b := 1) (by decide +kernel) (by decide +kernel)) (by decide +kernel)
            have f_80_13 : iR y_80 (-1) 6 := iR_sub ey_80 f_0_3 (iR_c (n := 1) (a := 1) (b := 1) (by decide +kernel) (by decide +kernel)) (by decide +kernel)
            refine k_put (D := (dC, dI)) (ci := 7) (v := .int y_80) (C := RX7) (T := TX7) (N := 92) (ws' := [((r 42), .inl (cI, 20, .inl f42)), ((r 45), .inl (cI, 500, .inl f45)), (h, .inr (7, oM r (upd (upd (upd i 36 (u_57.1 0)) 44 y_80) 46 y_42) j)), ((r 32), .inl (cI, 3200, .inl (u_57.2.2.1 0))), ((r 33), .inl (cI, 3200, .inl (u_57.2.2.1 1)))]) hx hb hts hinX7 tyX7 tyX7_ok nmX7 hown hK hP hD hS 2 rfl rfl 44 (by decide) w_4 rfl rfl rfl rfl (Nat.le_of_ble_eq_true rfl) rfl dX7_joins_81 (fun H locs hP hD hS => ?_)
            refine lv_goto (tgt := 0) hx hb dX7_joins_84 (by decide) ?_
            exact ih_0 (u_57.2.2.1 0) (u_57.2.2.1 1) (u_57.1 0) y_80 y_42 (iR_w g_57_0 (by decide +kernel)) (iR_w f_80_13 (by decide +kernel)) (iR_w f_42_11 (by decide +kernel)) (FRw_tr g_57_3 t0_fr32) (show PX f38 f39 f40 f41 f42 f45 (u_57.2.2.1 0) (i 43).toInt.toNat y_42.toInt.toNat y_80.toInt (u_57.1 0).toInt.toNat (i 37).toInt.toNat (i 4).toInt 1 c0 from (by have em : j0_M0_46.toInt.toNat = y_42.toInt.toNat + 1 := (by have q1 : 1 ≤ j0_M0_46.toInt ∧ j0_M0_46.toInt ≤ 47 := f_18_7; omega); have ei : y_13.toNatClampNeg = (i 43).toInt.toNat - 1 := (by have q0 := iR_cn f_13_4 (by decide +kernel); have q1 : 1 ≤ (i 43).toInt ∧ (i 43).toInt ≤ 8 := f_0_1; omega); have p0 := p0_0; rw [em] at p0; have ey : y_42.toNatClampNeg = y_42.toInt.toNat := (by have q0 := iR_cn f_42_11 (by decide +kernel); omega); have hb : (f42 ((i 43).toInt.toNat - 1)).toInt < ((y_42.toInt.toNat + 1 : Nat) : Int) := (by rw [← ei, ← em]; have r1 := i_ti_lt rfl rfl c_15; have q1 : 1 ≤ j0_M0_46.toInt ∧ j0_M0_46.toInt ≤ 47 := f_18_7; omega); have p := PX_pop p0 hb (by rw [← ey]; exact g_57_1); have ec : (u_57.1 0).toInt.toNat = j0_M0_36.toInt.toNat + 1 := (by have q4 : 0 ≤ j0_M0_36.toInt ∧ j0_M0_36.toInt ≤ 1599 := f_36_10; omega); rw [if_pos (by rw [← ey]; exact i_ti_eq rfl (by decide) c_71)] at p; rw [ec, xy_80]; exact p)) (by have q1 : 0 ≤ y_42.toInt ∧ y_42.toInt ≤ 46 := f_42_11; have q2 : 1 ≤ j0_M0_46.toInt ∧ j0_M0_46.toInt ≤ 47 := f_18_7; have h9 := hm_0; omega) H locs ls (hP.sub [2, 3, 4, 0, 1] rfl) (hD.sub [2, 3, 4, 0, 1] (by decide +kernel) rfl) hS (lv_sub hl [0, 1] rfl)
  exact J_0 _ f32 f33 (i 36) (i 44) (i 46) (show iR (i 36) 0 1600 from hI 36) (iR_w (show iR (i 44) 0 7 from hI 44) (by decide +kernel)) (show iR (i 46) 0 48 from hI 46) FRw_refl (show PX f38 f39 f40 f41 f42 f45 f32 (i 43).toInt.toNat (i 46).toInt.toNat (i 44).toInt (i 36).toInt.toNat (i 37).toInt.toNat (i 4).toInt 1 c0 from hpx) (Nat.lt_succ_self _) H locs ls hP hD hS (lv_sub hl [0, 1] rfl)
set_option maxHeartbeats 8000000 in
set_option maxRecDepth 100000 in
theorem s_X7_areWishes_v2 (l : Launch) (dC : Nat → ClassId) (dI : Nat → Nat → Nat) (cI cJ cZ cM : ClassId) (h : Nat) (r : Nat → Nat) (i : Nat → Int32) (j : Nat → Int64) (x1 : Int32) (x2 : Int32) (f0 : Nat → Int32) (f18 : Nat → Int32) (hx1 : iR x1 0 1600) (hI : mR i) (hf0 : aR f0 0 255) (hf18 : aR f18 0 12) : k_Mi l yX7_areWishes wsX7_areWishes ({ frames := 2, cells := 0, slots := 0, locals := 61 }) (dC, dI) vwCl (tyy cI cJ cZ cM) [(h, .inr (7, oM r i j)), ((r 0), .inl (cI, 1800, .inl f0)), ((r 18), .inl (cI, 2, .inl f18))] [.ref h, .int x1, .int x2] 0 0 (fun (u9 : Unit) => [(h, .inr (7, oM r i j)), ((r 0), .inl (cI, 1800, .inl f0)), ((r 18), .inl (cI, 2, .inl f18))]) (fun (r9 : Int32) (u9 : Unit) => (iR r9 0 1) ∧ ((r9 = 0) ∨ ((AW f0 (f18 (i 13).toNatClampNeg) x1 x2)))) := by
  refine fun sz => k_enter (cc := cX7_areWishes) (maxL := 4) (ret := some (.boolean)) (Qc := fun A => va_Qi (fun (r9 : Int32) (u9 : Unit) => (iR r9 0 1) ∧ ((r9 = 0) ∨ ((AW f0 (f18 (i 13).toNatClampNeg) x1 x2)))) (fun u => k_B (dC, dI) vwCl (tyy cI cJ cZ cM) A ((fun (u9 : Unit) => [(h, .inr (7, oM r i j)), ((r 0), .inl (cI, 1800, .inl f0)), ((r 18), .inl (cI, 2, .inl f18))]) u)) A) sz (by decide +kernel) rfl (Nat.le_of_ble_eq_true rfl) (fun p e s m args below meth c A ls H locs B hP hD hS hl => ?_)
  obtain ⟨hx, hb, hml, hown, hts, hr, hlk, hnm, hK, hA, hN, hC⟩ := id B
  have hown : s.vm.findClass RX7 = some m.cls := hown
  have hl : lv_has ls 4 [(0, .ref h), (1, .int x1), (2, .int x2)] := hl
  have w_0 : (Cond.fieldLink RX7 7 "WishSeaModel" "tape" "[I").before args s = true := hts _ (List.mem_of_getElem? (i := 1) rfl)
  have hinX7 : ∀ w ∈ u_ws RX7 TX7 92, w ∈ wsX7_areWishes := fun _ h => List.mem_cons_of_mem _ (List.mem_append_right _ h)
  refine lv_iconst (v := 0) hx hb dX7_areWishes_0 (by decide +kernel) ?_
  have J_2 : ∀ (n_2 : Nat) (j2_L3 : Int32) (hj2_L3 : iR j2_L3 0 1600) (p2_0 : AW f0 (f18 (i 13).toNatClampNeg) j2_L3 x2) (hm_2 : (1600 - j2_L3.toInt).toNat < n_2) (H : Heap) (locs : List Loc) (ls : Array Slot), va_P (dC, dI) vwCl [(h, .inr (7, oM r i j)), ((r 0), .inl (cI, 1800, .inl f0)), ((r 18), .inl (cI, 2, .inl f18))] H → va_D A [(h, .inr (7, oM r i j)), ((r 0), .inl (cI, 1800, .inl f0)), ((r 18), .inl (cI, 2, .inl f18))] → va_S A s.heap H locs → lv_has ls 4 [(0, .ref h), (1, .int x1), (2, .int x2), (3, .int j2_L3)] → W p l e ({ frames := 2, cells := 0, slots := 0, locals := 61 }) s m args below meth c H locs 0 0 (MQ below (va_Qi (fun (r9 : Int32) (u9 : Unit) => (iR r9 0 1) ∧ ((r9 = 0) ∨ ((AW f0 (f18 (i 13).toNatClampNeg) x1 x2)))) (fun u => k_B (dC, dI) vwCl (tyy cI cJ cZ cM) A ((fun (u9 : Unit) => [(h, .inr (7, oM r i j)), ((r 0), .inl (cI, 1800, .inl f0)), ((r 18), .inl (cI, 2, .inl f18))]) u)) A) args s 0 0 A) (F0 m 2 ls []) := by
    intro n_2
    induction n_2 with
    | zero => intro j2_L3 hj2_L3 p2_0 hm_2; exact absurd hm_2 (Nat.not_lt_zero _)
    | succ n_2 ih_2 =>
      intro j2_L3 hj2_L3 p2_0 hm_2 H locs ls hP hD hS hl
      refine lv_iload_n hx hb dX7_areWishes_2 rfl (lv_at hl 3 rfl) ?_
      refine lv_iload_n hx hb dX7_areWishes_3 rfl (lv_at hl 1 rfl) ?_
      refine lv_icmp_ge (tgt := 44) hx hb dX7_areWishes_4 (by decide) (fun c_4 => ?_) (fun c_4 => ?_)
      · have c_4 : x1 ≤ j2_L3 := c_4
        refine lv_iconst (v := 1) hx hb dX7_areWishes_44 (by decide +kernel) ?_
        exact k_ri B hP hD hS dX7_areWishes_45 () [0, 1, 2] rfl rfl rfl (Nat.le_of_ble_eq_true rfl) (Nat.le_of_ble_eq_true rfl) ⟨(show iR 1 0 1 from (iR_c (n := 1) (a := 0) (b := 1) (by decide +kernel) (by decide +kernel))), (show (1 = 0) ∨ ((AW f0 (f18 (i 13).toNatClampNeg) x1 x2)) from (Or.inr (AW_le p2_0 c_4)))⟩
      · have c_4 : j2_L3 < x1 := i_nle c_4
        have f_7_1 : iR j2_L3 0 1599 := iR_ltL c_4 hj2_L3 hx1 (by decide +kernel)
        have f_7_2 : iR x1 1 1600 := iR_ltR c_4 hj2_L3 hx1 (by decide +kernel)
        refine lv_aload_n hx hb dX7_areWishes_7 rfl (lv_at hl 0 rfl) ?_
        refine lv_aload_n hx hb dX7_areWishes_8 rfl (lv_at hl 0 rfl) ?_
        refine k_get (D := (dC, dI)) (ci := 7) (v := .ref (r 0)) (C := RX7) (T := TX7) (N := 92) hx hb hts hinX7 hown hK hP 0 rfl rfl 0 (by decide) w_0 rfl rfl dX7_areWishes_9 ?_
        refine lv_iload_n hx hb dX7_areWishes_12 rfl (lv_at hl 3 rfl) ?_
        refine va_iald hx hb hK hP 1 0 rfl rfl (iR_vp f_7_1 (by decide +kernel)) dX7_areWishes_13 ?_
        have f_13_3 : iR (f0 j2_L3.toNatClampNeg) 0 255 := hf0 _
        refine k_ci (wc := [(h, .inr (7, oM r i j)), ((r 18), .inl (cI, 2, .inl f18))]) (wr := [((r 0), .inl (cI, 1800, .inl f0))]) (fun hPc hDc hFc => va_runV (As := [.int (f0 j2_L3.toNatClampNeg)]) (rest := []) ⟨hx, hb, hml, hown, hts⟩ (s_X7_isWish_v1 l dC dI cI cJ cZ cM h r i j (f0 j2_L3.toNatClampNeg) f18 hI hf18 H.size) (cwV 1 hts gX7_areWishes_X7_isWish rfl rfl rfl (by decide +kernel) ⟨(Nat.le_of_ble_eq_true rfl), (Nat.le_of_ble_eq_true rfl)⟩) (k_pV hPc hDc hK hN hC hS hFc hP (q0 := 0) (ci := 7) rfl rfl) rfl rfl hl.1 rfl (lv_room (Nat.le_of_ble_eq_true rfl)) dX7_areWishes_14 ⟨(Nat.le_of_ble_eq_true rfl), (Nat.le_of_ble_eq_true rfl)⟩) hP hD hS hA [0, 2] [1] rfl rfl rfl rfl (by decide) (fun _ => rfl) 0 0 rfl rfl (fun r_14 u_14 H locs hw hP hD hS => ?_)
        obtain ⟨g_14_0, g_14_1⟩ := hw
        have hP : va_P (dC, dI) vwCl [((r 0), .inl (cI, 1800, .inl f0)), (h, .inr (7, oM r i j)), ((r 18), .inl (cI, 2, .inl f18))] H := hP
        have hD : va_D A [((r 0), .inl (cI, 1800, .inl f0)), (h, .inr (7, oM r i j)), ((r 18), .inl (cI, 2, .inl f18))] := hD
        refine lv_if_ne (tgt := 38) hx hb dX7_areWishes_17 (by decide) (fun c_17 => ?_) (fun c_17 => ?_)
        · have c_17 : ¬ r_14 = 0 := c_17
          have f_38_4 : iR r_14 1 1 := iR_neL c_17 g_14_0 (iR_c (n := 0) (a := 0) (b := 0) (by decide +kernel) (by decide +kernel)) (by decide +kernel)
          obtain ⟨d_17_1_0, d_17_1_1⟩ := g_14_1.resolve_left c_17
          have f_38_5 : iR (f0 j2_L3.toNatClampNeg) 0 11 := iR_ltL d_17_1_1 f_13_3 (show iR (f18 (i 13).toNatClampNeg) 0 12 from hf18 _) (by decide +kernel)
          have f_38_6 : iR (f18 (i 13).toNatClampNeg) 1 12 := iR_ltR d_17_1_1 f_13_3 (show iR (f18 (i 13).toNatClampNeg) 0 12 from hf18 _) (by decide +kernel)
          obtain ⟨y_38p17, ey_38p17⟩ : ∃ y : Int32, y = j2_L3 + 1 := ⟨_, rfl⟩
          refine lv_iinc (v := y_38p17) (lv' := [(3, .int y_38p17), (0, .ref h), (1, .int x1), (2, .int x2)]) hx hb dX7_areWishes_38 hl (k := 3) rfl ey_38p17.symm (by decide) rfl (fun ls hl => ?_)
          have f_38p17_7 : iR y_38p17 1 1600 := iR_add ey_38p17 f_7_1 (iR_c (n := 1) (a := 1) (b := 1) (by decide +kernel) (by decide +kernel)) (by decide +kernel)
          refine lv_goto (tgt := 2) hx hb dX7_areWishes_41 (by decide) ?_
          exact ih_2 y_38p17 (iR_w f_38p17_7 (by decide +kernel)) (show AW f0 (f18 (i 13).toNatClampNeg) y_38p17 x2 from (AW_step p2_0 ey_38p17 f_7_1 (by decide +kernel) (Or.inl ⟨d_17_1_0, d_17_1_1⟩))) (m_up (B := 1600) hm_2 ey_38p17 f_7_1 (by decide +kernel)) H locs ls (hP.sub [1, 0, 2] rfl) (hD.sub [1, 0, 2] (by decide +kernel) rfl) hS (lv_sub hl [1, 2, 3, 0] rfl)
        · have c_17 : r_14 = 0 := c_17
          have f_20_4 : iR r_14 0 0 := iR_eqL c_17 g_14_0 (iR_c (n := 0) (a := 0) (b := 0) (by decide +kernel) (by decide +kernel)) (by decide +kernel)
          refine lv_iload_n hx hb dX7_areWishes_20 rfl (lv_at hl 2 rfl) ?_
          have J_36 : ∀   (H : Heap) (locs : List Loc) (ls : Array Slot), va_P (dC, dI) vwCl [(h, .inr (7, oM r i j)), ((r 0), .inl (cI, 1800, .inl f0)), ((r 18), .inl (cI, 2, .inl f18))] H → va_D A [(h, .inr (7, oM r i j)), ((r 0), .inl (cI, 1800, .inl f0)), ((r 18), .inl (cI, 2, .inl f18))] → va_S A s.heap H locs → lv_has ls 4 [] → W p l e ({ frames := 2, cells := 0, slots := 0, locals := 61 }) s m args below meth c H locs 0 0 (MQ below (va_Qi (fun (r9 : Int32) (u9 : Unit) => (iR r9 0 1) ∧ ((r9 = 0) ∨ ((AW f0 (f18 (i 13).toNatClampNeg) x1 x2)))) (fun u => k_B (dC, dI) vwCl (tyy cI cJ cZ cM) A ((fun (u9 : Unit) => [(h, .inr (7, oM r i j)), ((r 0), .inl (cI, 1800, .inl f0)), ((r 18), .inl (cI, 2, .inl f18))]) u)) A) args s 0 0 A) (F0 m 36 ls []) := by
            intro   H locs ls hP hD hS hl
            refine lv_iconst (v := 0) hx hb dX7_areWishes_36 (by decide +kernel) ?_
            exact k_ri B hP hD hS dX7_areWishes_37 () [0, 1, 2] rfl rfl rfl (Nat.le_of_ble_eq_true rfl) (Nat.le_of_ble_eq_true rfl) ⟨(show iR 0 0 1 from (iR_c (n := 0) (a := 0) (b := 1) (by decide +kernel) (by decide +kernel))), (show (0 = 0) ∨ ((AW f0 (f18 (i 13).toNatClampNeg) x1 x2)) from (Or.inl rfl))⟩
          refine lv_if_eq (tgt := 36) hx hb dX7_areWishes_21 (by decide) (fun c_21 => ?_) (fun c_21 => ?_)
          · have c_21 : x2 = 0 := c_21
            have f_36_5 : iR x2 0 0 := iR_eqL c_21 (iR_top _) (iR_c (n := 0) (a := 0) (b := 0) (by decide +kernel) (by decide +kernel)) (by decide +kernel)
            exact J_36   H locs ls (hP.sub [1, 0, 2] rfl) (hD.sub [1, 0, 2] (by decide +kernel) rfl) hS (lv_sub hl [] rfl)
          · have c_21 : ¬ x2 = 0 := c_21
            refine lv_aload_n hx hb dX7_areWishes_24 rfl (lv_at hl 0 rfl) ?_
            refine k_get (D := (dC, dI)) (ci := 7) (v := .ref (r 0)) (C := RX7) (T := TX7) (N := 92) hx hb hts hinX7 hown hK hP 1 rfl rfl 0 (by decide) w_0 rfl rfl dX7_areWishes_25 ?_
            refine lv_iload_n hx hb dX7_areWishes_28 rfl (lv_at hl 3 rfl) ?_
            refine va_iald hx hb hK hP 0 0 rfl rfl (iR_vp f_7_1 (by decide +kernel)) dX7_areWishes_29 ?_
            refine lv_sipush (v := 255) hx hb dX7_areWishes_30 (by decide +kernel) ?_
            refine lv_icmp_eq (tgt := 38) hx hb dX7_areWishes_33 (by decide) (fun c_33 => ?_) (fun c_33 => ?_)
            · have c_33 : (f0 j2_L3.toNatClampNeg) = 255 := c_33
              have f_38_5 : iR (f0 j2_L3.toNatClampNeg) 255 255 := iR_eqL c_33 f_13_3 (iR_c (n := 255) (a := 255) (b := 255) (by decide +kernel) (by decide +kernel)) (by decide +kernel)
              obtain ⟨y_38p33, ey_38p33⟩ : ∃ y : Int32, y = j2_L3 + 1 := ⟨_, rfl⟩
              refine lv_iinc (v := y_38p33) (lv' := [(3, .int y_38p33), (0, .ref h), (1, .int x1), (2, .int x2)]) hx hb dX7_areWishes_38 hl (k := 3) rfl ey_38p33.symm (by decide) rfl (fun ls hl => ?_)
              have f_38p33_6 : iR y_38p33 1 1600 := iR_add ey_38p33 f_7_1 (iR_c (n := 1) (a := 1) (b := 1) (by decide +kernel) (by decide +kernel)) (by decide +kernel)
              refine lv_goto (tgt := 2) hx hb dX7_areWishes_41 (by decide) ?_
              exact ih_2 y_38p33 (iR_w f_38p33_6 (by decide +kernel)) (show AW f0 (f18 (i 13).toNatClampNeg) y_38p33 x2 from (AW_step p2_0 ey_38p33 f_7_1 (by decide +kernel) (Or.inr ⟨by decide, c_33⟩))) (m_up (B := 1600) hm_2 ey_38p33 f_7_1 (by decide +kernel)) H locs ls (hP.sub [1, 0, 2] rfl) (hD.sub [1, 0, 2] (by decide +kernel) rfl) hS (lv_sub hl [1, 2, 3, 0] rfl)
            · have c_33 : ¬ (f0 j2_L3.toNatClampNeg) = 255 := c_33
              have f_36_5 : iR (f0 j2_L3.toNatClampNeg) 0 254 := iR_neL c_33 f_13_3 (iR_c (n := 255) (a := 255) (b := 255) (by decide +kernel) (by decide +kernel)) (by decide +kernel)
              exact J_36   H locs ls (hP.sub [1, 0, 2] rfl) (hD.sub [1, 0, 2] (by decide +kernel) rfl) hS (lv_sub hl [] rfl)
  refine lv_istore_n (lv' := [(3, .int 0), (0, .ref h), (1, .int x1), (2, .int x2)]) hx hb dX7_areWishes_1 rfl hl (by decide) rfl (fun ls hl => ?_)
  exact J_2 _ 0 (iR_c (n := 0) (a := 0) (b := 1600) (by decide +kernel) (by decide +kernel)) (show AW f0 (f18 (i 13).toNatClampNeg) 0 x2 from AW_0) (Nat.lt_succ_self _) H locs ls hP hD hS (lv_sub hl [1, 2, 3, 0] rfl)
set_option maxHeartbeats 8000000 in
set_option maxRecDepth 100000 in
theorem s_X7_manyOf_v4 (l : Launch) (dC : Nat → ClassId) (dI : Nat → Nat → Nat) (cI cJ cZ cM : ClassId) (h : Nat) (r : Nat → Nat) (i : Nat → Int32) (j : Nat → Int64) (x1 : Int32) (f14 : Nat → Int32) (hx1 : iR x1 0 1) (hI : mR i) (hf14 : aR f14 0 10) : k_Mi l yX7_manyOf wsX7_manyOf ({ frames := 1, cells := 0, slots := 0, locals := 40 }) (dC, dI) vwCl (tyy cI cJ cZ cM) [(h, .inr (7, oM r i j)), ((r 14), .inl (cI, 2, .inl f14))] [.ref h, .int x1, .int 0] 0 0 (fun (u9 : Unit) => [(h, .inr (7, oM r i j)), ((r 14), .inl (cI, 2, .inl f14))]) (fun (r9 : Int32) (u9 : Unit) => (r9 = (f14 x1.toNatClampNeg))) := by
  refine fun sz => k_enter (cc := cX7_manyOf) (maxL := 3) (ret := some (.int)) (Qc := fun A => va_Qi (fun (r9 : Int32) (u9 : Unit) => (r9 = (f14 x1.toNatClampNeg))) (fun u => k_B (dC, dI) vwCl (tyy cI cJ cZ cM) A ((fun (u9 : Unit) => [(h, .inr (7, oM r i j)), ((r 14), .inl (cI, 2, .inl f14))]) u)) A) sz (by decide +kernel) rfl (Nat.le_of_ble_eq_true rfl) (fun p e s m args below meth c A ls H locs B hP hD hS hl => ?_)
  obtain ⟨hx, hb, hml, hown, hts, hr, hlk, hnm, hK, hA, hN, hC⟩ := id B
  have hown : s.vm.findClass RX7 = some m.cls := hown
  have hl : lv_has ls 3 [(0, .ref h), (1, .int x1), (2, .int 0)] := hl
  have w_0 : (Cond.fieldLink RX7 54 "WishSeaModel" "things" "[I").before args s = true := hts _ (List.mem_of_getElem? (i := 1) rfl)
  have hinX7 : ∀ w ∈ u_ws RX7 TX7 92, w ∈ wsX7_manyOf := fun _ h => List.mem_cons_of_mem _ (List.mem_append_right _ h)
  refine lv_iload_n hx hb dX7_manyOf_0 rfl (lv_at hl 2 rfl) ?_
  refine lv_if_ne (tgt := 13) hx hb dX7_manyOf_1 (by decide) (fun q9 => absurd q9 (by decide +kernel)) (fun _ => ?_)
  refine lv_aload_n hx hb dX7_manyOf_4 rfl (lv_at hl 0 rfl) ?_
  refine k_get (D := (dC, dI)) (ci := 7) (v := .ref (r 14)) (C := RX7) (T := TX7) (N := 92) hx hb hts hinX7 hown hK hP 0 rfl rfl 14 (by decide) w_0 rfl rfl dX7_manyOf_5 ?_
  refine lv_iload_n hx hb dX7_manyOf_8 rfl (lv_at hl 1 rfl) ?_
  refine va_iald hx hb hK hP 1 0 rfl rfl (iR_vp hx1 (by decide +kernel)) dX7_manyOf_9 ?_
  have f_9_1 : iR (f14 x1.toNatClampNeg) 0 10 := hf14 _
  refine lv_goto (tgt := 19) hx hb dX7_manyOf_10 (by decide) ?_
  exact k_ri B hP hD hS dX7_manyOf_19 () [0, 1] rfl rfl rfl (Nat.le_of_ble_eq_true rfl) (Nat.le_of_ble_eq_true rfl) rfl
set_option maxHeartbeats 8000000 in
set_option maxRecDepth 100000 in
theorem s_X7_nameOf_v4 (l : Launch) (dC : Nat → ClassId) (dI : Nat → Nat → Nat) (cI cJ cZ cM : ClassId) (h : Nat) (r : Nat → Nat) (i : Nat → Int32) (j : Nat → Int64) (x1 : Int32) (x3 : Int32) (g34 : Nat → Int64) (hx1 : iR x1 0 1) (hx3 : iR x3 0 9) (hI : mR i) : k_Ml l yX7_nameOf wsX7_nameOf ({ frames := 1, cells := 0, slots := 0, locals := 40 }) (dC, dI) vwCl (tyy cI cJ cZ cM) [(h, .inr (7, oM r i j)), ((r 34), .inl (cJ, 20, .inr (.inl g34)))] [.ref h, .int x1, .int 0, .int x3] 0 0 (fun (u9 : Unit) => [(h, .inr (7, oM r i j)), ((r 34), .inl (cJ, 20, .inr (.inl g34)))]) (fun (r9 : Int64) (u9 : Unit) => True) := by
  refine fun sz => k_enter (cc := cX7_nameOf) (maxL := 4) (ret := some (.long)) (Qc := fun A => va_Ql (fun (r9 : Int64) (u9 : Unit) => True) (fun u => k_B (dC, dI) vwCl (tyy cI cJ cZ cM) A ((fun (u9 : Unit) => [(h, .inr (7, oM r i j)), ((r 34), .inl (cJ, 20, .inr (.inl g34)))]) u)) A) sz (by decide +kernel) rfl (Nat.le_of_ble_eq_true rfl) (fun p e s m args below meth c A ls H locs B hP hD hS hl => ?_)
  obtain ⟨hx, hb, hml, hown, hts, hr, hlk, hnm, hK, hA, hN, hC⟩ := id B
  have hown : s.vm.findClass RX7 = some m.cls := hown
  have hl : lv_has ls 4 [(0, .ref h), (1, .int x1), (2, .int 0), (3, .int x3)] := hl
  have w_0 : (Cond.fieldLink RX7 114 "WishSeaModel" "thingName" "[J").before args s = true := hts _ (List.mem_of_getElem? (i := 1) rfl)
  have hinX7 : ∀ w ∈ u_ws RX7 TX7 92, w ∈ wsX7_nameOf := fun _ h => List.mem_cons_of_mem _ (List.mem_append_right _ h)
  refine lv_iload_n hx hb dX7_nameOf_0 rfl (lv_at hl 2 rfl) ?_
  refine lv_if_ne (tgt := 18) hx hb dX7_nameOf_1 (by decide) (fun q9 => absurd q9 (by decide +kernel)) (fun _ => ?_)
  refine lv_aload_n hx hb dX7_nameOf_4 rfl (lv_at hl 0 rfl) ?_
  refine k_get (D := (dC, dI)) (ci := 7) (v := .ref (r 34)) (C := RX7) (T := TX7) (N := 92) hx hb hts hinX7 hown hK hP 0 rfl rfl 34 (by decide) w_0 rfl rfl dX7_nameOf_5 ?_
  refine lv_bipush (v := 10) hx hb dX7_nameOf_8 (by decide +kernel) ?_
  refine lv_iload_n hx hb dX7_nameOf_10 rfl (lv_at hl 1 rfl) ?_
  refine lv_imul hx hb dX7_nameOf_11 ?_
  refine lv_topi (fun y_11 ey_11 => ?_)
  have f_11_1 : iR y_11 0 10 := iR_mul ey_11 (iR_c (n := 10) (a := 10) (b := 10) (by decide +kernel) (by decide +kernel)) hx1 (by decide +kernel)
  refine lv_iload_n hx hb dX7_nameOf_12 rfl (lv_at hl 3 rfl) ?_
  refine lv_iadd hx hb dX7_nameOf_13 ?_
  refine lv_topi (fun y_13 ey_13 => ?_)
  have f_13_2 : iR y_13 0 19 := iR_add ey_13 f_11_1 hx3 (by decide +kernel)
  refine va_lald hx hb hK hP 1 1 rfl rfl (iR_vp f_13_2 (by decide +kernel)) dX7_nameOf_14 ?_
  refine lv_goto (tgt := 29) hx hb dX7_nameOf_15 (by decide) ?_
  exact k_rl B hP hD hS dX7_nameOf_29 () [0, 1] rfl rfl (Nat.le_of_ble_eq_true rfl) (Nat.le_of_ble_eq_true rfl) trivial
set_option maxHeartbeats 8000000 in
set_option maxRecDepth 100000 in
theorem s_X7_named_v0 (l : Launch) (dC : Nat → ClassId) (dI : Nat → Nat → Nat) (cI cJ cZ cM : ClassId) (h : Nat) (r : Nat → Nat) (i : Nat → Int32) (j : Nat → Int64) (x2 : Int64) (f14 : Nat → Int32) (g34 : Nat → Int64) (hI : mR i) (hf14 : aR f14 0 10) : k_Mi l yX7_named wsX7_named ({ frames := 2, cells := 0, slots := 0, locals := 63 }) (dC, dI) vwCl (tyy cI cJ cZ cM) [(h, .inr (7, oM r i j)), ((r 14), .inl (cI, 2, .inl f14)), ((r 34), .inl (cJ, 20, .inr (.inl g34)))] [.ref h, .int 0, .long x2] 0 0 (fun (u9 : Unit) => [(h, .inr (7, oM r i j)), ((r 14), .inl (cI, 2, .inl f14)), ((r 34), .inl (cJ, 20, .inr (.inl g34)))]) (fun (r9 : Int32) (u9 : Unit) => (iR r9 (-1) 9)) := by
  refine fun sz => k_enter (cc := cX7_named) (maxL := 5) (ret := some (.int)) (Qc := fun A => va_Qi (fun (r9 : Int32) (u9 : Unit) => (iR r9 (-1) 9)) (fun u => k_B (dC, dI) vwCl (tyy cI cJ cZ cM) A ((fun (u9 : Unit) => [(h, .inr (7, oM r i j)), ((r 14), .inl (cI, 2, .inl f14)), ((r 34), .inl (cJ, 20, .inr (.inl g34)))]) u)) A) sz (by decide +kernel) rfl (Nat.le_of_ble_eq_true rfl) (fun p e s m args below meth c A ls H locs B hP hD hS hl => ?_)
  obtain ⟨hx, hb, hml, hown, hts, hr, hlk, hnm, hK, hA, hN, hC⟩ := id B
  have hown : s.vm.findClass RX7 = some m.cls := hown
  have hl : lv_has ls 5 [(0, .ref h), (1, .int 0), (2, .long x2)] := hl
  have w_0 : (Cond.fieldLink RX7 124 "WishSeaModel" "in" "I").before args s = true := hts _ (List.mem_of_getElem? (i := 1) rfl)
  have hinX7 : ∀ w ∈ u_ws RX7 TX7 92, w ∈ wsX7_named := fun _ h => List.mem_cons_of_mem _ (List.mem_append_right _ h)
  refine lv_iconst (v := 0) hx hb dX7_named_0 (by decide +kernel) ?_
  have J_3 : ∀ (n_3 : Nat) (j3_L4 : Int32) (hj3_L4 : iR j3_L4 0 10) (hm_3 : (10 - j3_L4.toInt).toNat < n_3) (H : Heap) (locs : List Loc) (ls : Array Slot), va_P (dC, dI) vwCl [(h, .inr (7, oM r i j)), ((r 14), .inl (cI, 2, .inl f14)), ((r 34), .inl (cJ, 20, .inr (.inl g34)))] H → va_D A [(h, .inr (7, oM r i j)), ((r 14), .inl (cI, 2, .inl f14)), ((r 34), .inl (cJ, 20, .inr (.inl g34)))] → va_S A s.heap H locs → lv_has ls 5 [(0, .ref h), (1, .int 0), (2, .long x2), (4, .int j3_L4)] → W p l e ({ frames := 2, cells := 0, slots := 0, locals := 63 }) s m args below meth c H locs 0 0 (MQ below (va_Qi (fun (r9 : Int32) (u9 : Unit) => (iR r9 (-1) 9)) (fun u => k_B (dC, dI) vwCl (tyy cI cJ cZ cM) A ((fun (u9 : Unit) => [(h, .inr (7, oM r i j)), ((r 14), .inl (cI, 2, .inl f14)), ((r 34), .inl (cJ, 20, .inr (.inl g34)))]) u)) A) args s 0 0 A) (F0 m 3 ls []) := by
    intro n_3
    induction n_3 with
    | zero => intro j3_L4 hj3_L4 hm_3; exact absurd hm_3 (Nat.not_lt_zero _)
    | succ n_3 ih_3 =>
      intro j3_L4 hj3_L4 hm_3 H locs ls hP hD hS hl
      refine lv_iload hx hb dX7_named_3 (lv_at hl 3 rfl) ?_
      refine lv_aload_n hx hb dX7_named_5 rfl (lv_at hl 0 rfl) ?_
      refine lv_aload_n hx hb dX7_named_6 rfl (lv_at hl 0 rfl) ?_
      have f_7_1 : iR (i 37) 0 1 := hI 37
      refine k_get (D := (dC, dI)) (ci := 7) (v := .int (i 37)) (C := RX7) (T := TX7) (N := 92) hx hb hts hinX7 hown hK hP 0 rfl rfl 37 (by decide) w_0 rfl rfl dX7_named_7 ?_
      refine lv_iload_n hx hb dX7_named_10 rfl (lv_at hl 1 rfl) ?_
      refine k_ci (wc := [(h, .inr (7, oM r i j)), ((r 14), .inl (cI, 2, .inl f14))]) (wr := [((r 34), .inl (cJ, 20, .inr (.inl g34)))]) (fun hPc hDc hFc => va_runV (As := [.int (i 37), .int 0]) (rest := [.int j3_L4]) ⟨hx, hb, hml, hown, hts⟩ (s_X7_manyOf_v4 l dC dI cI cJ cZ cM h r i j (i 37) f14 f_7_1 hI hf14 H.size) (cwV 2 hts gX7_named_X7_manyOf rfl rfl rfl (by decide +kernel) ⟨(Nat.le_of_ble_eq_true rfl), (Nat.le_of_ble_eq_true rfl)⟩) (k_pV hPc hDc hK hN hC hS hFc hP (q0 := 0) (ci := 7) rfl rfl) rfl rfl hl.1 rfl (lv_room (Nat.le_of_ble_eq_true rfl)) dX7_named_11 ⟨(Nat.le_of_ble_eq_true rfl), (Nat.le_of_ble_eq_true rfl)⟩) hP hD hS hA [0, 1] [2] rfl rfl rfl rfl (by decide) (fun _ => rfl) 0 0 rfl rfl (fun r_11 u_11 H locs hw hP hD hS => ?_)
      have g_11_0 := hw
      obtain rfl : r_11 = (f14 (i 37).toNatClampNeg) := g_11_0
      have hP : va_P (dC, dI) vwCl [((r 34), .inl (cJ, 20, .inr (.inl g34))), (h, .inr (7, oM r i j)), ((r 14), .inl (cI, 2, .inl f14))] H := hP
      have hD : va_D A [((r 34), .inl (cJ, 20, .inr (.inl g34))), (h, .inr (7, oM r i j)), ((r 14), .inl (cI, 2, .inl f14))] := hD
      refine lv_icmp_ge (tgt := 42) hx hb dX7_named_14 (by decide) (fun c_14 => ?_) (fun c_14 => ?_)
      · have c_14 : (f14 (i 37).toNatClampNeg) ≤ j3_L4 := c_14
        refine lv_iconst (v := (-1)) hx hb dX7_named_42 (by decide +kernel) ?_
        exact k_ri B hP hD hS dX7_named_43 () [1, 2, 0] rfl rfl rfl (Nat.le_of_ble_eq_true rfl) (Nat.le_of_ble_eq_true rfl) (show iR (-1) (-1) 9 from (iR_c (n := (-1)) (a := (-1)) (b := 9) (by decide +kernel) (by decide +kernel)))
      · have c_14 : j3_L4 < (f14 (i 37).toNatClampNeg) := i_nle c_14
        have f_17_2 : iR j3_L4 0 9 := iR_ltL c_14 hj3_L4 (show iR (f14 (i 37).toNatClampNeg) 0 10 from hf14 _) (by decide +kernel)
        have f_17_3 : iR (f14 (i 37).toNatClampNeg) 1 10 := iR_ltR c_14 hj3_L4 (show iR (f14 (i 37).toNatClampNeg) 0 10 from hf14 _) (by decide +kernel)
        refine lv_aload_n hx hb dX7_named_17 rfl (lv_at hl 0 rfl) ?_
        refine lv_aload_n hx hb dX7_named_18 rfl (lv_at hl 0 rfl) ?_
        refine k_get (D := (dC, dI)) (ci := 7) (v := .int (i 37)) (C := RX7) (T := TX7) (N := 92) hx hb hts hinX7 hown hK hP 1 rfl rfl 37 (by decide) w_0 rfl rfl dX7_named_19 ?_
        refine lv_iload_n hx hb dX7_named_22 rfl (lv_at hl 1 rfl) ?_
        refine lv_iload hx hb dX7_named_23 (lv_at hl 3 rfl) ?_
        refine k_cl (wc := [(h, .inr (7, oM r i j)), ((r 34), .inl (cJ, 20, .inr (.inl g34)))]) (wr := [((r 14), .inl (cI, 2, .inl f14))]) (fun hPc hDc hFc => va_runV (As := [.int (i 37), .int 0, .int j3_L4]) (rest := []) ⟨hx, hb, hml, hown, hts⟩ (s_X7_nameOf_v4 l dC dI cI cJ cZ cM h r i j (i 37) j3_L4 g34 f_7_1 f_17_2 hI H.size) (cwV 3 hts gX7_named_X7_nameOf rfl rfl rfl (by decide +kernel) ⟨(Nat.le_of_ble_eq_true rfl), (Nat.le_of_ble_eq_true rfl)⟩) (k_pV hPc hDc hK hN hC hS hFc hP (q0 := 1) (ci := 7) rfl rfl) rfl rfl hl.1 rfl (lv_room (Nat.le_of_ble_eq_true rfl)) dX7_named_25 ⟨(Nat.le_of_ble_eq_true rfl), (Nat.le_of_ble_eq_true rfl)⟩) hP hD hS hA [1, 0] [2] rfl rfl rfl rfl (by decide) (fun _ => rfl) 0 0 rfl rfl (fun r_25 u_25 H locs hw hP hD hS => ?_)
        have hP : va_P (dC, dI) vwCl [((r 14), .inl (cI, 2, .inl f14)), (h, .inr (7, oM r i j)), ((r 34), .inl (cJ, 20, .inr (.inl g34)))] H := hP
        have hD : va_D A [((r 14), .inl (cI, 2, .inl f14)), (h, .inr (7, oM r i j)), ((r 34), .inl (cJ, 20, .inr (.inl g34)))] := hD
        refine lv_lload_n hx hb dX7_named_28 rfl (lv_at hl 2 rfl) ?_
        refine W.lcmp hx hb dX7_named_29 ?_
        refine lv_topi (fun y_29 ey_29 => ?_)
        refine lv_if_ne (tgt := 36) hx hb dX7_named_30 (by decide) (fun c_30 => ?_) (fun c_30 => ?_)
        · have c_30 : ¬ y_29 = 0 := c_30
          have lc_30 : ¬ r_25 = x2 := l_cmpne ey_29 c_30
          obtain ⟨y_36, ey_36⟩ : ∃ y : Int32, y = j3_L4 + 1 := ⟨_, rfl⟩
          refine lv_iinc (v := y_36) (lv' := [(4, .int y_36), (0, .ref h), (1, .int 0), (2, .long x2)]) hx hb dX7_named_36 hl (k := 3) rfl ey_36.symm (by decide) rfl (fun ls hl => ?_)
          have f_36_4 : iR y_36 1 10 := iR_add ey_36 f_17_2 (iR_c (n := 1) (a := 1) (b := 1) (by decide +kernel) (by decide +kernel)) (by decide +kernel)
          refine lv_goto (tgt := 3) hx hb dX7_named_39 (by decide) ?_
          exact ih_3 y_36 (iR_w f_36_4 (by decide +kernel)) (m_up (B := 10) hm_3 ey_36 f_17_2 (by decide +kernel)) H locs ls (hP.sub [1, 0, 2] rfl) (hD.sub [1, 0, 2] (by decide +kernel) rfl) hS (lv_sub hl [1, 2, 3, 0] rfl)
        · have c_30 : y_29 = 0 := c_30
          have f_33_4 : iR y_29 0 0 := iR_eqL c_30 (iR_top _) (iR_c (n := 0) (a := 0) (b := 0) (by decide +kernel) (by decide +kernel)) (by decide +kernel)
          have lc_30 : r_25 = x2 := l_cmpe ey_29 c_30
          refine lv_iload hx hb dX7_named_33 (lv_at hl 3 rfl) ?_
          exact k_ri B hP hD hS dX7_named_35 () [1, 0, 2] rfl rfl rfl (Nat.le_of_ble_eq_true rfl) (Nat.le_of_ble_eq_true rfl) (show iR j3_L4 (-1) 9 from (iR_w f_17_2 (by decide +kernel)))
  refine lv_istore (lv' := [(4, .int 0), (0, .ref h), (1, .int 0), (2, .long x2)]) hx hb dX7_named_1 hl (by decide) rfl (fun ls hl => ?_)
  exact J_3 _ 0 (iR_c (n := 0) (a := 0) (b := 10) (by decide +kernel) (by decide +kernel)) (Nat.lt_succ_self _) H locs ls hP hD hS (lv_sub hl [1, 2, 3, 0] rfl)
set_option maxHeartbeats 8000000 in
set_option maxRecDepth 100000 in
theorem s_X7_manyOf_v5 (l : Launch) (dC : Nat → ClassId) (dI : Nat → Nat → Nat) (cI cJ cZ cM : ClassId) (h : Nat) (r : Nat → Nat) (i : Nat → Int32) (j : Nat → Int64) (x1 : Int32) (f18 : Nat → Int32) (hx1 : iR x1 0 1) (hI : mR i) (hf18 : aR f18 0 12) : k_Mi l yX7_manyOf wsX7_manyOf ({ frames := 1, cells := 0, slots := 0, locals := 40 }) (dC, dI) vwCl (tyy cI cJ cZ cM) [(h, .inr (7, oM r i j)), ((r 18), .inl (cI, 2, .inl f18))] [.ref h, .int x1, .int 1] 0 0 (fun (u9 : Unit) => [(h, .inr (7, oM r i j)), ((r 18), .inl (cI, 2, .inl f18))]) (fun (r9 : Int32) (u9 : Unit) => (r9 = (f18 x1.toNatClampNeg))) := by
  refine fun sz => k_enter (cc := cX7_manyOf) (maxL := 3) (ret := some (.int)) (Qc := fun A => va_Qi (fun (r9 : Int32) (u9 : Unit) => (r9 = (f18 x1.toNatClampNeg))) (fun u => k_B (dC, dI) vwCl (tyy cI cJ cZ cM) A ((fun (u9 : Unit) => [(h, .inr (7, oM r i j)), ((r 18), .inl (cI, 2, .inl f18))]) u)) A) sz (by decide +kernel) rfl (Nat.le_of_ble_eq_true rfl) (fun p e s m args below meth c A ls H locs B hP hD hS hl => ?_)
  obtain ⟨hx, hb, hml, hown, hts, hr, hlk, hnm, hK, hA, hN, hC⟩ := id B
  have hown : s.vm.findClass RX7 = some m.cls := hown
  have hl : lv_has ls 3 [(0, .ref h), (1, .int x1), (2, .int 1)] := hl
  have w_0 : (Cond.fieldLink RX7 66 "WishSeaModel" "wishes" "[I").before args s = true := hts _ (List.mem_of_getElem? (i := 2) rfl)
  have hinX7 : ∀ w ∈ u_ws RX7 TX7 92, w ∈ wsX7_manyOf := fun _ h => List.mem_cons_of_mem _ (List.mem_append_right _ h)
  refine lv_iload_n hx hb dX7_manyOf_0 rfl (lv_at hl 2 rfl) ?_
  refine lv_if_ne (tgt := 13) hx hb dX7_manyOf_1 (by decide) (fun _ => ?_) (fun q9 => absurd q9 (by decide +kernel))
  refine lv_aload_n hx hb dX7_manyOf_13 rfl (lv_at hl 0 rfl) ?_
  refine k_get (D := (dC, dI)) (ci := 7) (v := .ref (r 18)) (C := RX7) (T := TX7) (N := 92) hx hb hts hinX7 hown hK hP 0 rfl rfl 18 (by decide) w_0 rfl rfl dX7_manyOf_14 ?_
  refine lv_iload_n hx hb dX7_manyOf_17 rfl (lv_at hl 1 rfl) ?_
  refine va_iald hx hb hK hP 1 0 rfl rfl (iR_vp hx1 (by decide +kernel)) dX7_manyOf_18 ?_
  have f_18_1 : iR (f18 x1.toNatClampNeg) 0 12 := hf18 _
  exact k_ri B hP hD hS dX7_manyOf_19 () [0, 1] rfl rfl rfl (Nat.le_of_ble_eq_true rfl) (Nat.le_of_ble_eq_true rfl) rfl
set_option maxHeartbeats 8000000 in
set_option maxRecDepth 100000 in
theorem s_X7_nameOf_v5 (l : Launch) (dC : Nat → ClassId) (dI : Nat → Nat → Nat) (cI cJ cZ cM : ClassId) (h : Nat) (r : Nat → Nat) (i : Nat → Int32) (j : Nat → Int64) (x1 : Int32) (x3 : Int32) (g35 : Nat → Int64) (hx1 : iR x1 0 1) (hx3 : iR x3 0 11) (hI : mR i) : k_Ml l yX7_nameOf wsX7_nameOf ({ frames := 1, cells := 0, slots := 0, locals := 40 }) (dC, dI) vwCl (tyy cI cJ cZ cM) [(h, .inr (7, oM r i j)), ((r 35), .inl (cJ, 24, .inr (.inl g35)))] [.ref h, .int x1, .int 1, .int x3] 0 0 (fun (u9 : Unit) => [(h, .inr (7, oM r i j)), ((r 35), .inl (cJ, 24, .inr (.inl g35)))]) (fun (r9 : Int64) (u9 : Unit) => True) := by
  refine fun sz => k_enter (cc := cX7_nameOf) (maxL := 4) (ret := some (.long)) (Qc := fun A => va_Ql (fun (r9 : Int64) (u9 : Unit) => True) (fun u => k_B (dC, dI) vwCl (tyy cI cJ cZ cM) A ((fun (u9 : Unit) => [(h, .inr (7, oM r i j)), ((r 35), .inl (cJ, 24, .inr (.inl g35)))]) u)) A) sz (by decide +kernel) rfl (Nat.le_of_ble_eq_true rfl) (fun p e s m args below meth c A ls H locs B hP hD hS hl => ?_)
  obtain ⟨hx, hb, hml, hown, hts, hr, hlk, hnm, hK, hA, hN, hC⟩ := id B
  have hown : s.vm.findClass RX7 = some m.cls := hown
  have hl : lv_has ls 4 [(0, .ref h), (1, .int x1), (2, .int 1), (3, .int x3)] := hl
  have w_0 : (Cond.fieldLink RX7 118 "WishSeaModel" "wishName" "[J").before args s = true := hts _ (List.mem_of_getElem? (i := 2) rfl)
  have hinX7 : ∀ w ∈ u_ws RX7 TX7 92, w ∈ wsX7_nameOf := fun _ h => List.mem_cons_of_mem _ (List.mem_append_right _ h)
  refine lv_iload_n hx hb dX7_nameOf_0 rfl (lv_at hl 2 rfl) ?_
  refine lv_if_ne (tgt := 18) hx hb dX7_nameOf_1 (by decide) (fun _ => ?_) (fun q9 => absurd q9 (by decide +kernel))
  refine lv_aload_n hx hb dX7_nameOf_18 rfl (lv_at hl 0 rfl) ?_
  refine k_get (D := (dC, dI)) (ci := 7) (v := .ref (r 35)) (C := RX7) (T := TX7) (N := 92) hx hb hts hinX7 hown hK hP 0 rfl rfl 35 (by decide) w_0 rfl rfl dX7_nameOf_19 ?_
  refine lv_bipush (v := 12) hx hb dX7_nameOf_22 (by decide +kernel) ?_
  refine lv_iload_n hx hb dX7_nameOf_24 rfl (lv_at hl 1 rfl) ?_
  refine lv_imul hx hb dX7_nameOf_25 ?_
  refine lv_topi (fun y_25 ey_25 => ?_)
  have f_25_1 : iR y_25 0 12 := iR_mul ey_25 (iR_c (n := 12) (a := 12) (b := 12) (by decide +kernel) (by decide +kernel)) hx1 (by decide +kernel)
  refine lv_iload_n hx hb dX7_nameOf_26 rfl (lv_at hl 3 rfl) ?_
  refine lv_iadd hx hb dX7_nameOf_27 ?_
  refine lv_topi (fun y_27 ey_27 => ?_)
  have f_27_2 : iR y_27 0 23 := iR_add ey_27 f_25_1 hx3 (by decide +kernel)
  refine va_lald hx hb hK hP 1 1 rfl rfl (iR_vp f_27_2 (by decide +kernel)) dX7_nameOf_28 ?_
  exact k_rl B hP hD hS dX7_nameOf_29 () [0, 1] rfl rfl (Nat.le_of_ble_eq_true rfl) (Nat.le_of_ble_eq_true rfl) trivial
set_option maxHeartbeats 8000000 in
set_option maxRecDepth 100000 in
theorem s_X7_named_v1 (l : Launch) (dC : Nat → ClassId) (dI : Nat → Nat → Nat) (cI cJ cZ cM : ClassId) (h : Nat) (r : Nat → Nat) (i : Nat → Int32) (j : Nat → Int64) (x2 : Int64) (f18 : Nat → Int32) (g35 : Nat → Int64) (hI : mR i) (hf18 : aR f18 0 12) : k_Mi l yX7_named wsX7_named ({ frames := 2, cells := 0, slots := 0, locals := 63 }) (dC, dI) vwCl (tyy cI cJ cZ cM) [(h, .inr (7, oM r i j)), ((r 18), .inl (cI, 2, .inl f18)), ((r 35), .inl (cJ, 24, .inr (.inl g35)))] [.ref h, .int 1, .long x2] 0 0 (fun (u9 : Unit) => [(h, .inr (7, oM r i j)), ((r 18), .inl (cI, 2, .inl f18)), ((r 35), .inl (cJ, 24, .inr (.inl g35)))]) (fun (r9 : Int32) (u9 : Unit) => (iR r9 (-1) 11)) := by
  refine fun sz => k_enter (cc := cX7_named) (maxL := 5) (ret := some (.int)) (Qc := fun A => va_Qi (fun (r9 : Int32) (u9 : Unit) => (iR r9 (-1) 11)) (fun u => k_B (dC, dI) vwCl (tyy cI cJ cZ cM) A ((fun (u9 : Unit) => [(h, .inr (7, oM r i j)), ((r 18), .inl (cI, 2, .inl f18)), ((r 35), .inl (cJ, 24, .inr (.inl g35)))]) u)) A) sz (by decide +kernel) rfl (Nat.le_of_ble_eq_true rfl) (fun p e s m args below meth c A ls H locs B hP hD hS hl => ?_)
  obtain ⟨hx, hb, hml, hown, hts, hr, hlk, hnm, hK, hA, hN, hC⟩ := id B
  have hown : s.vm.findClass RX7 = some m.cls := hown
  have hl : lv_has ls 5 [(0, .ref h), (1, .int 1), (2, .long x2)] := hl
  have w_0 : (Cond.fieldLink RX7 124 "WishSeaModel" "in" "I").before args s = true := hts _ (List.mem_of_getElem? (i := 1) rfl)
  have hinX7 : ∀ w ∈ u_ws RX7 TX7 92, w ∈ wsX7_named := fun _ h => List.mem_cons_of_mem _ (List.mem_append_right _ h)
  refine lv_iconst (v := 0) hx hb dX7_named_0 (by decide +kernel) ?_
  have J_3 : ∀ (n_3 : Nat) (j3_L4 : Int32) (hj3_L4 : iR j3_L4 0 12) (hm_3 : (12 - j3_L4.toInt).toNat < n_3) (H : Heap) (locs : List Loc) (ls : Array Slot), va_P (dC, dI) vwCl [(h, .inr (7, oM r i j)), ((r 18), .inl (cI, 2, .inl f18)), ((r 35), .inl (cJ, 24, .inr (.inl g35)))] H → va_D A [(h, .inr (7, oM r i j)), ((r 18), .inl (cI, 2, .inl f18)), ((r 35), .inl (cJ, 24, .inr (.inl g35)))] → va_S A s.heap H locs → lv_has ls 5 [(0, .ref h), (1, .int 1), (2, .long x2), (4, .int j3_L4)] → W p l e ({ frames := 2, cells := 0, slots := 0, locals := 63 }) s m args below meth c H locs 0 0 (MQ below (va_Qi (fun (r9 : Int32) (u9 : Unit) => (iR r9 (-1) 11)) (fun u => k_B (dC, dI) vwCl (tyy cI cJ cZ cM) A ((fun (u9 : Unit) => [(h, .inr (7, oM r i j)), ((r 18), .inl (cI, 2, .inl f18)), ((r 35), .inl (cJ, 24, .inr (.inl g35)))]) u)) A) args s 0 0 A) (F0 m 3 ls []) := by
    intro n_3
    induction n_3 with
    | zero => intro j3_L4 hj3_L4 hm_3; exact absurd hm_3 (Nat.not_lt_zero _)
    | succ n_3 ih_3 =>
      intro j3_L4 hj3_L4 hm_3 H locs ls hP hD hS hl
      refine lv_iload hx hb dX7_named_3 (lv_at hl 3 rfl) ?_
      refine lv_aload_n hx hb dX7_named_5 rfl (lv_at hl 0 rfl) ?_
      refine lv_aload_n hx hb dX7_named_6 rfl (lv_at hl 0 rfl) ?_
      have f_7_1 : iR (i 37) 0 1 := hI 37
      refine k_get (D := (dC, dI)) (ci := 7) (v := .int (i 37)) (C := RX7) (T := TX7) (N := 92) hx hb hts hinX7 hown hK hP 0 rfl rfl 37 (by decide) w_0 rfl rfl dX7_named_7 ?_
      refine lv_iload_n hx hb dX7_named_10 rfl (lv_at hl 1 rfl) ?_
      refine k_ci (wc := [(h, .inr (7, oM r i j)), ((r 18), .inl (cI, 2, .inl f18))]) (wr := [((r 35), .inl (cJ, 24, .inr (.inl g35)))]) (fun hPc hDc hFc => va_runV (As := [.int (i 37), .int 1]) (rest := [.int j3_L4]) ⟨hx, hb, hml, hown, hts⟩ (s_X7_manyOf_v5 l dC dI cI cJ cZ cM h r i j (i 37) f18 f_7_1 hI hf18 H.size) (cwV 2 hts gX7_named_X7_manyOf rfl rfl rfl (by decide +kernel) ⟨(Nat.le_of_ble_eq_true rfl), (Nat.le_of_ble_eq_true rfl)⟩) (k_pV hPc hDc hK hN hC hS hFc hP (q0 := 0) (ci := 7) rfl rfl) rfl rfl hl.1 rfl (lv_room (Nat.le_of_ble_eq_true rfl)) dX7_named_11 ⟨(Nat.le_of_ble_eq_true rfl), (Nat.le_of_ble_eq_true rfl)⟩) hP hD hS hA [0, 1] [2] rfl rfl rfl rfl (by decide) (fun _ => rfl) 0 0 rfl rfl (fun r_11 u_11 H locs hw hP hD hS => ?_)
      have g_11_0 := hw
      obtain rfl : r_11 = (f18 (i 37).toNatClampNeg) := g_11_0
      have hP : va_P (dC, dI) vwCl [((r 35), .inl (cJ, 24, .inr (.inl g35))), (h, .inr (7, oM r i j)), ((r 18), .inl (cI, 2, .inl f18))] H := hP
      have hD : va_D A [((r 35), .inl (cJ, 24, .inr (.inl g35))), (h, .inr (7, oM r i j)), ((r 18), .inl (cI, 2, .inl f18))] := hD
      refine lv_icmp_ge (tgt := 42) hx hb dX7_named_14 (by decide) (fun c_14 => ?_) (fun c_14 => ?_)
      · have c_14 : (f18 (i 37).toNatClampNeg) ≤ j3_L4 := c_14
        refine lv_iconst (v := (-1)) hx hb dX7_named_42 (by decide +kernel) ?_
        exact k_ri B hP hD hS dX7_named_43 () [1, 2, 0] rfl rfl rfl (Nat.le_of_ble_eq_true rfl) (Nat.le_of_ble_eq_true rfl) (show iR (-1) (-1) 11 from (iR_c (n := (-1)) (a := (-1)) (b := 11) (by decide +kernel) (by decide +kernel)))
      · have c_14 : j3_L4 < (f18 (i 37).toNatClampNeg) := i_nle c_14
        have f_17_2 : iR j3_L4 0 11 := iR_ltL c_14 hj3_L4 (show iR (f18 (i 37).toNatClampNeg) 0 12 from hf18 _) (by decide +kernel)
        have f_17_3 : iR (f18 (i 37).toNatClampNeg) 1 12 := iR_ltR c_14 hj3_L4 (show iR (f18 (i 37).toNatClampNeg) 0 12 from hf18 _) (by decide +kernel)
        refine lv_aload_n hx hb dX7_named_17 rfl (lv_at hl 0 rfl) ?_
        refine lv_aload_n hx hb dX7_named_18 rfl (lv_at hl 0 rfl) ?_
        refine k_get (D := (dC, dI)) (ci := 7) (v := .int (i 37)) (C := RX7) (T := TX7) (N := 92) hx hb hts hinX7 hown hK hP 1 rfl rfl 37 (by decide) w_0 rfl rfl dX7_named_19 ?_
        refine lv_iload_n hx hb dX7_named_22 rfl (lv_at hl 1 rfl) ?_
        refine lv_iload hx hb dX7_named_23 (lv_at hl 3 rfl) ?_
        refine k_cl (wc := [(h, .inr (7, oM r i j)), ((r 35), .inl (cJ, 24, .inr (.inl g35)))]) (wr := [((r 18), .inl (cI, 2, .inl f18))]) (fun hPc hDc hFc => va_runV (As := [.int (i 37), .int 1, .int j3_L4]) (rest := []) ⟨hx, hb, hml, hown, hts⟩ (s_X7_nameOf_v5 l dC dI cI cJ cZ cM h r i j (i 37) j3_L4 g35 f_7_1 f_17_2 hI H.size) (cwV 3 hts gX7_named_X7_nameOf rfl rfl rfl (by decide +kernel) ⟨(Nat.le_of_ble_eq_true rfl), (Nat.le_of_ble_eq_true rfl)⟩) (k_pV hPc hDc hK hN hC hS hFc hP (q0 := 1) (ci := 7) rfl rfl) rfl rfl hl.1 rfl (lv_room (Nat.le_of_ble_eq_true rfl)) dX7_named_25 ⟨(Nat.le_of_ble_eq_true rfl), (Nat.le_of_ble_eq_true rfl)⟩) hP hD hS hA [1, 0] [2] rfl rfl rfl rfl (by decide) (fun _ => rfl) 0 0 rfl rfl (fun r_25 u_25 H locs hw hP hD hS => ?_)
        have hP : va_P (dC, dI) vwCl [((r 18), .inl (cI, 2, .inl f18)), (h, .inr (7, oM r i j)), ((r 35), .inl (cJ, 24, .inr (.inl g35)))] H := hP
        have hD : va_D A [((r 18), .inl (cI, 2, .inl f18)), (h, .inr (7, oM r i j)), ((r 35), .inl (cJ, 24, .inr (.inl g35)))] := hD
        refine lv_lload_n hx hb dX7_named_28 rfl (lv_at hl 2 rfl) ?_
        refine W.lcmp hx hb dX7_named_29 ?_
        refine lv_topi (fun y_29 ey_29 => ?_)
        refine lv_if_ne (tgt := 36) hx hb dX7_named_30 (by decide) (fun c_30 => ?_) (fun c_30 => ?_)
        · have c_30 : ¬ y_29 = 0 := c_30
          have lc_30 : ¬ r_25 = x2 := l_cmpne ey_29 c_30
          obtain ⟨y_36, ey_36⟩ : ∃ y : Int32, y = j3_L4 + 1 := ⟨_, rfl⟩
          refine lv_iinc (v := y_36) (lv' := [(4, .int y_36), (0, .ref h), (1, .int 1), (2, .long x2)]) hx hb dX7_named_36 hl (k := 3) rfl ey_36.symm (by decide) rfl (fun ls hl => ?_)
          have f_36_4 : iR y_36 1 12 := iR_add ey_36 f_17_2 (iR_c (n := 1) (a := 1) (b := 1) (by decide +kernel) (by decide +kernel)) (by decide +kernel)
          refine lv_goto (tgt := 3) hx hb dX7_named_39 (by decide) ?_
          exact ih_3 y_36 (iR_w f_36_4 (by decide +kernel)) (m_up (B := 12) hm_3 ey_36 f_17_2 (by decide +kernel)) H locs ls (hP.sub [1, 0, 2] rfl) (hD.sub [1, 0, 2] (by decide +kernel) rfl) hS (lv_sub hl [1, 2, 3, 0] rfl)
        · have c_30 : y_29 = 0 := c_30
          have f_33_4 : iR y_29 0 0 := iR_eqL c_30 (iR_top _) (iR_c (n := 0) (a := 0) (b := 0) (by decide +kernel) (by decide +kernel)) (by decide +kernel)
          have lc_30 : r_25 = x2 := l_cmpe ey_29 c_30
          refine lv_iload hx hb dX7_named_33 (lv_at hl 3 rfl) ?_
          exact k_ri B hP hD hS dX7_named_35 () [1, 0, 2] rfl rfl rfl (Nat.le_of_ble_eq_true rfl) (Nat.le_of_ble_eq_true rfl) (show iR j3_L4 (-1) 11 from (iR_w f_17_2 (by decide +kernel)))
  refine lv_istore (lv' := [(4, .int 0), (0, .ref h), (1, .int 1), (2, .long x2)]) hx hb dX7_named_1 hl (by decide) rfl (fun ls hl => ?_)
  exact J_3 _ 0 (iR_c (n := 0) (a := 0) (b := 12) (by decide +kernel) (by decide +kernel)) (Nat.lt_succ_self _) H locs ls hP hD hS (lv_sub hl [1, 2, 3, 0] rfl)
set_option maxHeartbeats 8000000 in
set_option maxRecDepth 100000 in
theorem s_X7_blame_v4 (l : Launch) (dC : Nat → ClassId) (dI : Nat → Nat → Nat) (cI cJ cZ cM : ClassId) (h : Nat) (r : Nat → Nat) (i : Nat → Int32) (j : Nat → Int64) (x1 : Int32) (x2 : Int32) (hx1 : iR x1 1 6) (hI : mR i) : k_Mv l yX7_blame wsX7_blame ({ frames := 1, cells := 0, slots := 0, locals := 40 }) (dC, dI) vwCl (tyy cI cJ cZ cM) [(h, .inr (7, oM r i j))] [.ref h, .int x1, .int x2] 0 0 (fun (u9 : SU) => [(h, .inr (7, oM r (upd (upd i 8 (u9.1 0)) 9 (u9.1 1)) j))]) (fun (u9 : SU) => (iR (u9.1 0) 1 6)) := by
  refine fun sz => k_enter (cc := cX7_blame) (maxL := 3) (ret := none) (Qc := fun A => va_Qv (fun (u9 : SU) => (iR (u9.1 0) 1 6)) (fun u => k_B (dC, dI) vwCl (tyy cI cJ cZ cM) A ((fun (u9 : SU) => [(h, .inr (7, oM r (upd (upd i 8 (u9.1 0)) 9 (u9.1 1)) j))]) u)) A) sz (by decide +kernel) rfl (Nat.le_of_ble_eq_true rfl) (fun p e s m args below meth c A ls H locs B hP hD hS hl => ?_)
  obtain ⟨hx, hb, hml, hown, hts, hr, hlk, hnm, hK, hA, hN, hC⟩ := id B
  have hown : s.vm.findClass RX7 = some m.cls := hown
  have hl : lv_has ls 3 [(0, .ref h), (1, .int x1), (2, .int x2)] := hl
  have w_0 : (Cond.fieldLink RX7 36 "WishSeaModel" "faultKind" "I").before args s = true := hts _ (List.mem_of_getElem? (i := 1) rfl)
  have w_1 : (Cond.fieldLink RX7 39 "WishSeaModel" "faultPlace" "I").before args s = true := hts _ (List.mem_of_getElem? (i := 2) rfl)
  have hinX7 : ∀ w ∈ u_ws RX7 TX7 92, w ∈ wsX7_blame := fun _ h => List.mem_cons_of_mem _ (List.mem_append_right _ h)
  refine lv_aload_n hx hb dX7_blame_0 rfl (lv_at hl 0 rfl) ?_
  have f_1_1 : iR (i 8) 0 6 := hI 8
  refine k_get (D := (dC, dI)) (ci := 7) (v := .int (i 8)) (C := RX7) (T := TX7) (N := 92) hx hb hts hinX7 hown hK hP 0 rfl rfl 8 (by decide) w_0 rfl rfl dX7_blame_1 ?_
  refine lv_if_le (tgt := 8) hx hb dX7_blame_4 (by decide) (fun c_4 => ?_) (fun c_4 => ?_)
  · have c_4 : (i 8) ≤ 0 := c_4
    have f_8_2 : iR (i 8) 0 0 := iR_leL c_4 f_1_1 (iR_c (n := 0) (a := 0) (b := 0) (by decide +kernel) (by decide +kernel)) (by decide +kernel)
    refine lv_aload_n hx hb dX7_blame_8 rfl (lv_at hl 0 rfl) ?_
    refine lv_iload_n hx hb dX7_blame_9 rfl (lv_at hl 1 rfl) ?_
    refine k_put (D := (dC, dI)) (ci := 7) (v := .int x1) (C := RX7) (T := TX7) (N := 92) (ws' := [(h, .inr (7, oM r (upd i 8 x1) j))]) hx hb hts hinX7 tyX7 tyX7_ok nmX7 hown hK hP hD hS 0 rfl rfl 8 (by decide) w_0 rfl rfl rfl rfl (Nat.le_of_ble_eq_true rfl) rfl dX7_blame_10 (fun H locs hP hD hS => ?_)
    refine lv_aload_n hx hb dX7_blame_13 rfl (lv_at hl 0 rfl) ?_
    refine lv_iload_n hx hb dX7_blame_14 rfl (lv_at hl 2 rfl) ?_
    refine k_put (D := (dC, dI)) (ci := 7) (v := .int x2) (C := RX7) (T := TX7) (N := 92) (ws' := [(h, .inr (7, oM r (upd (upd i 8 x1) 9 x2) j))]) hx hb hts hinX7 tyX7 tyX7_ok nmX7 hown hK hP hD hS 0 rfl rfl 9 (by decide) w_1 rfl rfl rfl rfl (Nat.le_of_ble_eq_true rfl) rfl dX7_blame_15 (fun H locs hP hD hS => ?_)
    exact k_rv B hP hD hS dX7_blame_18 ((fun k9 => match k9 with | 0 => x1 | 1 => x2 | _ => 0), (fun _ => 0), (fun _ => (fun _ => 0)), (fun _ => (fun _ => 0)), (fun _ => 0)) [0] rfl rfl (Nat.le_of_ble_eq_true rfl) (Nat.le_of_ble_eq_true rfl) (show iR x1 1 6 from hx1)
  · have c_4 : 0 < (i 8) := i_nle c_4
    have f_7_2 : iR (i 8) 1 6 := iR_ltR c_4 (iR_c (n := 0) (a := 0) (b := 0) (by decide +kernel) (by decide +kernel)) f_1_1 (by decide +kernel)
    exact k_rv B hP hD hS dX7_blame_7 ((fun k9 => match k9 with | 0 => (i 8) | 1 => (i 9) | _ => 0), (fun _ => 0), (fun _ => (fun _ => 0)), (fun _ => (fun _ => 0)), (fun _ => 0)) [0] rfl rfl (Nat.le_of_ble_eq_true rfl) (Nat.le_of_ble_eq_true rfl) (show iR (i 8) 1 6 from f_7_2)
set_option maxHeartbeats 8000000 in
set_option maxRecDepth 100000 in
theorem s_X7_lex_v3 (l : Launch) (dC : Nat → ClassId) (dI : Nat → Nat → Nat) (cI cJ cZ cM : ClassId) (h : Nat) (r : Nat → Nat) (i : Nat → Int32) (j : Nat → Int64) (hI : mR i) : k_Mv l yX7_lex wsX7_lex ({ frames := 2, cells := 0, slots := 0, locals := 62 }) (dC, dI) vwCl (tyy cI cJ cZ cM) [(h, .inr (7, oM r i j))] [.ref h] 0 0 (fun (u9 : SU) => [(h, .inr (7, oM r (upd (upd i 8 (u9.1 0)) 9 (u9.1 1)) j))]) (fun (u9 : SU) => (iR (u9.1 0) 0 6)) := by
  refine fun sz => k_enter (cc := cX7_lex) (maxL := 1) (ret := none) (Qc := fun A => va_Qv (fun (u9 : SU) => (iR (u9.1 0) 0 6)) (fun u => k_B (dC, dI) vwCl (tyy cI cJ cZ cM) A ((fun (u9 : SU) => [(h, .inr (7, oM r (upd (upd i 8 (u9.1 0)) 9 (u9.1 1)) j))]) u)) A) sz (by decide +kernel) rfl (Nat.le_of_ble_eq_true rfl) (fun p e s m args below meth c A ls H locs B hP hD hS hl => ?_)
  obtain ⟨hx, hb, hml, hown, hts, hr, hlk, hnm, hK, hA, hN, hC⟩ := id B
  have hown : s.vm.findClass RX7 = some m.cls := hown
  have hl : lv_has ls 1 [(0, .ref h)] := hl
  have w_0 : (Cond.fieldLink RX7 48 "WishSeaModel" "lexAt" "I").before args s = true := hts _ (List.mem_of_getElem? (i := 1) rfl)
  have hinX7 : ∀ w ∈ u_ws RX7 TX7 92, w ∈ wsX7_lex := fun _ h => List.mem_cons_of_mem _ (List.mem_append_right _ h)
  refine lv_aload_n hx hb dX7_lex_0 rfl (lv_at hl 0 rfl) ?_
  refine k_get (D := (dC, dI)) (ci := 7) (v := .int (i 12)) (C := RX7) (T := TX7) (N := 92) hx hb hts hinX7 hown hK hP 0 rfl rfl 12 (by decide) w_0 rfl rfl dX7_lex_1 ?_
  refine lv_iconst (v := (-1)) hx hb dX7_lex_4 (by decide +kernel) ?_
  refine lv_icmp_eq (tgt := 17) hx hb dX7_lex_5 (by decide) (fun c_5 => ?_) (fun c_5 => ?_)
  · have c_5 : (i 12) = (-1) := c_5
    have f_17_1 : iR (i 12) (-1) (-1) := iR_eqL c_5 (iR_top _) (iR_c (n := (-1)) (a := (-1)) (b := (-1)) (by decide +kernel) (by decide +kernel)) (by decide +kernel)
    exact k_rv B hP hD hS dX7_lex_17 ((fun k9 => match k9 with | 0 => (i 8) | 1 => (i 9) | _ => 0), (fun _ => 0), (fun _ => (fun _ => 0)), (fun _ => (fun _ => 0)), (fun _ => 0)) [0] rfl rfl (Nat.le_of_ble_eq_true rfl) (Nat.le_of_ble_eq_true rfl) (show iR (i 8) 0 6 from (hI 8))
  · have c_5 : ¬ (i 12) = (-1) := c_5
    refine lv_aload_n hx hb dX7_lex_8 rfl (lv_at hl 0 rfl) ?_
    refine lv_iconst (v := 1) hx hb dX7_lex_9 (by decide +kernel) ?_
    refine lv_aload_n hx hb dX7_lex_10 rfl (lv_at hl 0 rfl) ?_
    refine k_get (D := (dC, dI)) (ci := 7) (v := .int (i 12)) (C := RX7) (T := TX7) (N := 92) hx hb hts hinX7 hown hK hP 0 rfl rfl 12 (by decide) w_0 rfl rfl dX7_lex_11 ?_
    refine k_cv (wc := [(h, .inr (7, oM r i j))]) (wr := []) (fun hPc hDc hFc => va_runV (As := [.int 1, .int (i 12)]) (rest := []) ⟨hx, hb, hml, hown, hts⟩ (s_X7_blame_v1 l dC dI cI cJ cZ cM h r i j 1 (i 12) (iR_c (n := 1) (a := 1) (b := 6) (by decide +kernel) (by decide +kernel)) hI H.size) (cwV 2 hts gX7_lex_X7_blame rfl rfl rfl (by decide +kernel) ⟨(Nat.le_of_ble_eq_true rfl), (Nat.le_of_ble_eq_true rfl)⟩) (k_pV hPc hDc hK hN hC hS hFc hP (q0 := 0) (ci := 7) rfl rfl) rfl rfl hl.1 rfl (lv_room (Nat.le_of_ble_eq_true rfl)) dX7_lex_14 ⟨(Nat.le_of_ble_eq_true rfl), (Nat.le_of_ble_eq_true rfl)⟩) hP hD hS hA [0] [] rfl rfl rfl rfl (by decide) (fun _ => rfl) 0 0 rfl rfl (fun u_14 H locs hw hP hD hS => ?_)
    have g_14_0 := hw
    have hP : va_P (dC, dI) vwCl [(h, .inr (7, oM r (upd (upd i 8 (u_14.1 0)) 9 (u_14.1 1)) j))] H := hP
    have hD : va_D A [(h, .inr (7, oM r (upd (upd i 8 (u_14.1 0)) 9 (u_14.1 1)) j))] := hD
    exact k_rv B hP hD hS dX7_lex_17 ((fun k9 => match k9 with | 0 => (u_14.1 0) | 1 => (u_14.1 1) | _ => 0), (fun _ => 0), (fun _ => (fun _ => 0)), (fun _ => (fun _ => 0)), (fun _ => 0)) [0] rfl rfl (Nat.le_of_ble_eq_true rfl) (Nat.le_of_ble_eq_true rfl) (show iR (u_14.1 0) 0 6 from (iR_w g_14_0 (by decide +kernel)))
set_option maxHeartbeats 8000000 in
set_option maxRecDepth 100000 in
theorem s_X7_isOwn_v3 (l : Launch) (dC : Nat → ClassId) (dI : Nat → Nat → Nat) (cI cJ cZ cM : ClassId) (h : Nat) (x1 : Int64)  : k_Mi l yX7_isOwn wsX7_isOwn ({ frames := 1, cells := 0, slots := 0, locals := 40 }) (dC, dI) vwCl (tyy cI cJ cZ cM) [] [.ref h, .long x1] 0 0 (fun (u9 : Unit) => []) (fun (r9 : Int32) (u9 : Unit) => (iR r9 0 1)) := by
  refine fun sz => k_enter (cc := cX7_isOwn) (maxL := 3) (ret := some (.boolean)) (Qc := fun A => va_Qi (fun (r9 : Int32) (u9 : Unit) => (iR r9 0 1)) (fun u => k_B (dC, dI) vwCl (tyy cI cJ cZ cM) A ((fun (u9 : Unit) => []) u)) A) sz (by decide +kernel) rfl (Nat.le_of_ble_eq_true rfl) (fun p e s m args below meth c A ls H locs B hP hD hS hl => ?_)
  obtain ⟨hx, hb, hml, hown, hts, hr, hlk, hnm, hK, hA, hN, hC⟩ := id B
  have hown : s.vm.findClass RX7 = some m.cls := hown
  have hl : lv_has ls 3 [(0, .ref h), (1, .long x1)] := hl
  have w_0 : (Cond.constantLong RX7 323 (499967946343)).before args s = true := hts _ (List.mem_of_getElem? (i := 1) rfl)
  have w_1 : (Cond.constantLong RX7 325 (512970880104)).before args s = true := hts _ (List.mem_of_getElem? (i := 2) rfl)
  have w_2 : (Cond.constantLong RX7 327 (125793039377779)).before args s = true := hts _ (List.mem_of_getElem? (i := 3) rfl)
  have w_3 : (Cond.constantLong RX7 329 (422826304870)).before args s = true := hts _ (List.mem_of_getElem? (i := 4) rfl)
  have w_4 : (Cond.constantLong RX7 331 (2003399528)).before args s = true := hts _ (List.mem_of_getElem? (i := 5) rfl)
  have w_5 : (Cond.constantLong RX7 333 (512970876019)).before args s = true := hts _ (List.mem_of_getElem? (i := 6) rfl)
  have w_6 : (Cond.constantLong RX7 335 (444150998387)).before args s = true := hts _ (List.mem_of_getElem? (i := 7) rfl)
  have w_7 : (Cond.constantLong RX7 337 (474147546227)).before args s = true := hts _ (List.mem_of_getElem? (i := 8) rfl)
  have w_8 : (Cond.constantLong RX7 339 (1970496883)).before args s = true := hts _ (List.mem_of_getElem? (i := 9) rfl)
  have w_9 : (Cond.constantLong RX7 341 (439855772532)).before args s = true := hts _ (List.mem_of_getElem? (i := 10) rfl)
  have w_10 : (Cond.constantLong RX7 343 (1684107883)).before args s = true := hts _ (List.mem_of_getElem? (i := 11) rfl)
  have w_11 : (Cond.constantLong RX7 345 (1919905645)).before args s = true := hts _ (List.mem_of_getElem? (i := 12) rfl)
  have w_12 : (Cond.constantLong RX7 347 (27988542884245108)).before args s = true := hts _ (List.mem_of_getElem? (i := 13) rfl)
  have w_13 : (Cond.constantLong RX7 349 (422607680115)).before args s = true := hts _ (List.mem_of_getElem? (i := 14) rfl)
  have w_14 : (Cond.constantLong RX7 351 (1667329133)).before args s = true := hts _ (List.mem_of_getElem? (i := 15) rfl)
  have w_15 : (Cond.constantLong RX7 353 (6840676)).before args s = true := hts _ (List.mem_of_getElem? (i := 16) rfl)
  have w_16 : (Cond.constantLong RX7 355 (7562593)).before args s = true := hts _ (List.mem_of_getElem? (i := 17) rfl)
  have w_17 : (Cond.constantLong RX7 357 (1935763812)).before args s = true := hts _ (List.mem_of_getElem? (i := 18) rfl)
  have w_18 : (Cond.constantLong RX7 359 (6578553)).before args s = true := hts _ (List.mem_of_getElem? (i := 19) rfl)
  have w_19 : (Cond.constantLong RX7 361 (28530)).before args s = true := hts _ (List.mem_of_getElem? (i := 20) rfl)
  have w_20 : (Cond.constantLong RX7 363 (6385252)).before args s = true := hts _ (List.mem_of_getElem? (i := 21) rfl)
  have w_21 : (Cond.constantLong RX7 365 (7237492)).before args s = true := hts _ (List.mem_of_getElem? (i := 22) rfl)
  have w_22 : (Cond.constantLong RX7 367 (6384748)).before args s = true := hts _ (List.mem_of_getElem? (i := 23) rfl)
  have w_23 : (Cond.constantLong RX7 369 (7170414)).before args s = true := hts _ (List.mem_of_getElem? (i := 24) rfl)
  have w_24 : (Cond.constantLong RX7 371 (7168376)).before args s = true := hts _ (List.mem_of_getElem? (i := 25) rfl)
  refine lv_lload_n hx hb dX7_isOwn_0 rfl (lv_at hl 1 rfl) ?_
  refine lv_ldc2 (v := 499967946343) hx hb hown w_0 dX7_isOwn_1 ?_
  refine W.lcmp hx hb dX7_isOwn_4 ?_
  refine lv_topi (fun y_4 ey_4 => ?_)
  have J_40 : ∀   (H : Heap) (locs : List Loc) (ls : Array Slot), va_P (dC, dI) vwCl [] H → va_D A [] → va_S A s.heap H locs → lv_has ls 3 [] → W p l e ({ frames := 1, cells := 0, slots := 0, locals := 40 }) s m args below meth c H locs 0 0 (MQ below (va_Qi (fun (r9 : Int32) (u9 : Unit) => (iR r9 0 1)) (fun u => k_B (dC, dI) vwCl (tyy cI cJ cZ cM) A ((fun (u9 : Unit) => []) u)) A) args s 0 0 A) (F0 m 40 ls []) := by
    intro   H locs ls hP hD hS hl
    refine lv_iconst (v := 1) hx hb dX7_isOwn_40 (by decide +kernel) ?_
    exact k_ri B hP hD hS dX7_isOwn_41 () [] rfl rfl rfl (Nat.le_of_ble_eq_true rfl) (Nat.le_of_ble_eq_true rfl) (show iR 1 0 1 from (iR_c (n := 1) (a := 0) (b := 1) (by decide +kernel) (by decide +kernel)))
  refine lv_if_eq (tgt := 40) hx hb dX7_isOwn_5 (by decide) (fun c_5 => ?_) (fun c_5 => ?_)
  · have c_5 : y_4 = 0 := c_5
    have f_40_1 : iR y_4 0 0 := iR_eqL c_5 (iR_top _) (iR_c (n := 0) (a := 0) (b := 0) (by decide +kernel) (by decide +kernel)) (by decide +kernel)
    have lc_5 : x1 = 499967946343 := l_cmpe ey_4 c_5
    exact J_40   H locs ls hP hD hS (lv_sub hl [] rfl)
  · have c_5 : ¬ y_4 = 0 := c_5
    have lc_5 : ¬ x1 = 499967946343 := l_cmpne ey_4 c_5
    refine lv_lload_n hx hb dX7_isOwn_8 rfl (lv_at hl 1 rfl) ?_
    refine lv_ldc2 (v := 512970880104) hx hb hown w_1 dX7_isOwn_9 ?_
    refine W.lcmp hx hb dX7_isOwn_12 ?_
    refine lv_topi (fun y_12 ey_12 => ?_)
    refine lv_if_eq (tgt := 40) hx hb dX7_isOwn_13 (by decide) (fun c_13 => ?_) (fun c_13 => ?_)
    · have c_13 : y_12 = 0 := c_13
      have f_40_1 : iR y_12 0 0 := iR_eqL c_13 (iR_top _) (iR_c (n := 0) (a := 0) (b := 0) (by decide +kernel) (by decide +kernel)) (by decide +kernel)
      have lc_13 : x1 = 512970880104 := l_cmpe ey_12 c_13
      exact J_40   H locs ls hP hD hS (lv_sub hl [] rfl)
    · have c_13 : ¬ y_12 = 0 := c_13
      have lc_13 : ¬ x1 = 512970880104 := l_cmpne ey_12 c_13
      refine lv_lload_n hx hb dX7_isOwn_16 rfl (lv_at hl 1 rfl) ?_
      refine lv_ldc2 (v := 125793039377779) hx hb hown w_2 dX7_isOwn_17 ?_
      refine W.lcmp hx hb dX7_isOwn_20 ?_
      refine lv_topi (fun y_20 ey_20 => ?_)
      refine lv_if_eq (tgt := 40) hx hb dX7_isOwn_21 (by decide) (fun c_21 => ?_) (fun c_21 => ?_)
      · have c_21 : y_20 = 0 := c_21
        have f_40_1 : iR y_20 0 0 := iR_eqL c_21 (iR_top _) (iR_c (n := 0) (a := 0) (b := 0) (by decide +kernel) (by decide +kernel)) (by decide +kernel)
        have lc_21 : x1 = 125793039377779 := l_cmpe ey_20 c_21
        exact J_40   H locs ls hP hD hS (lv_sub hl [] rfl)
      · have c_21 : ¬ y_20 = 0 := c_21
        have lc_21 : ¬ x1 = 125793039377779 := l_cmpne ey_20 c_21
        refine lv_lload_n hx hb dX7_isOwn_24 rfl (lv_at hl 1 rfl) ?_
        refine lv_ldc2 (v := 422826304870) hx hb hown w_3 dX7_isOwn_25 ?_
        refine W.lcmp hx hb dX7_isOwn_28 ?_
        refine lv_topi (fun y_28 ey_28 => ?_)
        refine lv_if_eq (tgt := 40) hx hb dX7_isOwn_29 (by decide) (fun c_29 => ?_) (fun c_29 => ?_)
        · have c_29 : y_28 = 0 := c_29
          have f_40_1 : iR y_28 0 0 := iR_eqL c_29 (iR_top _) (iR_c (n := 0) (a := 0) (b := 0) (by decide +kernel) (by decide +kernel)) (by decide +kernel)
          have lc_29 : x1 = 422826304870 := l_cmpe ey_28 c_29
          exact J_40   H locs ls hP hD hS (lv_sub hl [] rfl)
        · have c_29 : ¬ y_28 = 0 := c_29
          have lc_29 : ¬ x1 = 422826304870 := l_cmpne ey_28 c_29
          refine lv_lload_n hx hb dX7_isOwn_32 rfl (lv_at hl 1 rfl) ?_
          refine lv_ldc2 (v := 2003399528) hx hb hown w_4 dX7_isOwn_33 ?_
          refine W.lcmp hx hb dX7_isOwn_36 ?_
          refine lv_topi (fun y_36 ey_36 => ?_)
          refine lv_if_ne (tgt := 42) hx hb dX7_isOwn_37 (by decide) (fun c_37 => ?_) (fun c_37 => ?_)
          · have c_37 : ¬ y_36 = 0 := c_37
            have lc_37 : ¬ x1 = 2003399528 := l_cmpne ey_36 c_37
            refine lv_lload_n hx hb dX7_isOwn_42 rfl (lv_at hl 1 rfl) ?_
            refine lv_ldc2 (v := 512970876019) hx hb hown w_5 dX7_isOwn_43 ?_
            refine W.lcmp hx hb dX7_isOwn_46 ?_
            refine lv_topi (fun y_46 ey_46 => ?_)
            have J_82 : ∀   (H : Heap) (locs : List Loc) (ls : Array Slot), va_P (dC, dI) vwCl [] H → va_D A [] → va_S A s.heap H locs → lv_has ls 3 [] → W p l e ({ frames := 1, cells := 0, slots := 0, locals := 40 }) s m args below meth c H locs 0 0 (MQ below (va_Qi (fun (r9 : Int32) (u9 : Unit) => (iR r9 0 1)) (fun u => k_B (dC, dI) vwCl (tyy cI cJ cZ cM) A ((fun (u9 : Unit) => []) u)) A) args s 0 0 A) (F0 m 82 ls []) := by
              intro   H locs ls hP hD hS hl
              refine lv_iconst (v := 1) hx hb dX7_isOwn_82 (by decide +kernel) ?_
              exact k_ri B hP hD hS dX7_isOwn_83 () [] rfl rfl rfl (Nat.le_of_ble_eq_true rfl) (Nat.le_of_ble_eq_true rfl) (show iR 1 0 1 from (iR_c (n := 1) (a := 0) (b := 1) (by decide +kernel) (by decide +kernel)))
            refine lv_if_eq (tgt := 82) hx hb dX7_isOwn_47 (by decide) (fun c_47 => ?_) (fun c_47 => ?_)
            · have c_47 : y_46 = 0 := c_47
              have f_82_1 : iR y_46 0 0 := iR_eqL c_47 (iR_top _) (iR_c (n := 0) (a := 0) (b := 0) (by decide +kernel) (by decide +kernel)) (by decide +kernel)
              have lc_47 : x1 = 512970876019 := l_cmpe ey_46 c_47
              exact J_82   H locs ls hP hD hS (lv_sub hl [] rfl)
            · have c_47 : ¬ y_46 = 0 := c_47
              have lc_47 : ¬ x1 = 512970876019 := l_cmpne ey_46 c_47
              refine lv_lload_n hx hb dX7_isOwn_50 rfl (lv_at hl 1 rfl) ?_
              refine lv_ldc2 (v := 444150998387) hx hb hown w_6 dX7_isOwn_51 ?_
              refine W.lcmp hx hb dX7_isOwn_54 ?_
              refine lv_topi (fun y_54 ey_54 => ?_)
              refine lv_if_eq (tgt := 82) hx hb dX7_isOwn_55 (by decide) (fun c_55 => ?_) (fun c_55 => ?_)
              · have c_55 : y_54 = 0 := c_55
                have f_82_1 : iR y_54 0 0 := iR_eqL c_55 (iR_top _) (iR_c (n := 0) (a := 0) (b := 0) (by decide +kernel) (by decide +kernel)) (by decide +kernel)
                have lc_55 : x1 = 444150998387 := l_cmpe ey_54 c_55
                exact J_82   H locs ls hP hD hS (lv_sub hl [] rfl)
              · have c_55 : ¬ y_54 = 0 := c_55
                have lc_55 : ¬ x1 = 444150998387 := l_cmpne ey_54 c_55
                refine lv_lload_n hx hb dX7_isOwn_58 rfl (lv_at hl 1 rfl) ?_
                refine lv_ldc2 (v := 474147546227) hx hb hown w_7 dX7_isOwn_59 ?_
                refine W.lcmp hx hb dX7_isOwn_62 ?_
                refine lv_topi (fun y_62 ey_62 => ?_)
                refine lv_if_eq (tgt := 82) hx hb dX7_isOwn_63 (by decide) (fun c_63 => ?_) (fun c_63 => ?_)
                · have c_63 : y_62 = 0 := c_63
                  have f_82_1 : iR y_62 0 0 := iR_eqL c_63 (iR_top _) (iR_c (n := 0) (a := 0) (b := 0) (by decide +kernel) (by decide +kernel)) (by decide +kernel)
                  have lc_63 : x1 = 474147546227 := l_cmpe ey_62 c_63
                  exact J_82   H locs ls hP hD hS (lv_sub hl [] rfl)
                · have c_63 : ¬ y_62 = 0 := c_63
                  have lc_63 : ¬ x1 = 474147546227 := l_cmpne ey_62 c_63
                  refine lv_lload_n hx hb dX7_isOwn_66 rfl (lv_at hl 1 rfl) ?_
                  refine lv_ldc2 (v := 1970496883) hx hb hown w_8 dX7_isOwn_67 ?_
                  refine W.lcmp hx hb dX7_isOwn_70 ?_
                  refine lv_topi (fun y_70 ey_70 => ?_)
                  refine lv_if_eq (tgt := 82) hx hb dX7_isOwn_71 (by decide) (fun c_71 => ?_) (fun c_71 => ?_)
                  · have c_71 : y_70 = 0 := c_71
                    have f_82_1 : iR y_70 0 0 := iR_eqL c_71 (iR_top _) (iR_c (n := 0) (a := 0) (b := 0) (by decide +kernel) (by decide +kernel)) (by decide +kernel)
                    have lc_71 : x1 = 1970496883 := l_cmpe ey_70 c_71
                    exact J_82   H locs ls hP hD hS (lv_sub hl [] rfl)
                  · have c_71 : ¬ y_70 = 0 := c_71
                    have lc_71 : ¬ x1 = 1970496883 := l_cmpne ey_70 c_71
                    refine lv_lload_n hx hb dX7_isOwn_74 rfl (lv_at hl 1 rfl) ?_
                    refine lv_ldc2 (v := 439855772532) hx hb hown w_9 dX7_isOwn_75 ?_
                    refine W.lcmp hx hb dX7_isOwn_78 ?_
                    refine lv_topi (fun y_78 ey_78 => ?_)
                    refine lv_if_ne (tgt := 84) hx hb dX7_isOwn_79 (by decide) (fun c_79 => ?_) (fun c_79 => ?_)
                    · have c_79 : ¬ y_78 = 0 := c_79
                      have lc_79 : ¬ x1 = 439855772532 := l_cmpne ey_78 c_79
                      refine lv_lload_n hx hb dX7_isOwn_84 rfl (lv_at hl 1 rfl) ?_
                      refine lv_ldc2 (v := 1684107883) hx hb hown w_10 dX7_isOwn_85 ?_
                      refine W.lcmp hx hb dX7_isOwn_88 ?_
                      refine lv_topi (fun y_88 ey_88 => ?_)
                      have J_124 : ∀   (H : Heap) (locs : List Loc) (ls : Array Slot), va_P (dC, dI) vwCl [] H → va_D A [] → va_S A s.heap H locs → lv_has ls 3 [] → W p l e ({ frames := 1, cells := 0, slots := 0, locals := 40 }) s m args below meth c H locs 0 0 (MQ below (va_Qi (fun (r9 : Int32) (u9 : Unit) => (iR r9 0 1)) (fun u => k_B (dC, dI) vwCl (tyy cI cJ cZ cM) A ((fun (u9 : Unit) => []) u)) A) args s 0 0 A) (F0 m 124 ls []) := by
                        intro   H locs ls hP hD hS hl
                        refine lv_iconst (v := 1) hx hb dX7_isOwn_124 (by decide +kernel) ?_
                        exact k_ri B hP hD hS dX7_isOwn_125 () [] rfl rfl rfl (Nat.le_of_ble_eq_true rfl) (Nat.le_of_ble_eq_true rfl) (show iR 1 0 1 from (iR_c (n := 1) (a := 0) (b := 1) (by decide +kernel) (by decide +kernel)))
                      refine lv_if_eq (tgt := 124) hx hb dX7_isOwn_89 (by decide) (fun c_89 => ?_) (fun c_89 => ?_)
                      · have c_89 : y_88 = 0 := c_89
                        have f_124_1 : iR y_88 0 0 := iR_eqL c_89 (iR_top _) (iR_c (n := 0) (a := 0) (b := 0) (by decide +kernel) (by decide +kernel)) (by decide +kernel)
                        have lc_89 : x1 = 1684107883 := l_cmpe ey_88 c_89
                        exact J_124   H locs ls hP hD hS (lv_sub hl [] rfl)
                      · have c_89 : ¬ y_88 = 0 := c_89
                        have lc_89 : ¬ x1 = 1684107883 := l_cmpne ey_88 c_89
                        refine lv_lload_n hx hb dX7_isOwn_92 rfl (lv_at hl 1 rfl) ?_
                        refine lv_ldc2 (v := 1919905645) hx hb hown w_11 dX7_isOwn_93 ?_
                        refine W.lcmp hx hb dX7_isOwn_96 ?_
                        refine lv_topi (fun y_96 ey_96 => ?_)
                        refine lv_if_eq (tgt := 124) hx hb dX7_isOwn_97 (by decide) (fun c_97 => ?_) (fun c_97 => ?_)
                        · have c_97 : y_96 = 0 := c_97
                          have f_124_1 : iR y_96 0 0 := iR_eqL c_97 (iR_top _) (iR_c (n := 0) (a := 0) (b := 0) (by decide +kernel) (by decide +kernel)) (by decide +kernel)
                          have lc_97 : x1 = 1919905645 := l_cmpe ey_96 c_97
                          exact J_124   H locs ls hP hD hS (lv_sub hl [] rfl)
                        · have c_97 : ¬ y_96 = 0 := c_97
                          have lc_97 : ¬ x1 = 1919905645 := l_cmpne ey_96 c_97
                          refine lv_lload_n hx hb dX7_isOwn_100 rfl (lv_at hl 1 rfl) ?_
                          refine lv_ldc2 (v := 27988542884245108) hx hb hown w_12 dX7_isOwn_101 ?_
                          refine W.lcmp hx hb dX7_isOwn_104 ?_
                          refine lv_topi (fun y_104 ey_104 => ?_)
                          refine lv_if_eq (tgt := 124) hx hb dX7_isOwn_105 (by decide) (fun c_105 => ?_) (fun c_105 => ?_)
                          · have c_105 : y_104 = 0 := c_105
                            have f_124_1 : iR y_104 0 0 := iR_eqL c_105 (iR_top _) (iR_c (n := 0) (a := 0) (b := 0) (by decide +kernel) (by decide +kernel)) (by decide +kernel)
                            have lc_105 : x1 = 27988542884245108 := l_cmpe ey_104 c_105
                            exact J_124   H locs ls hP hD hS (lv_sub hl [] rfl)
                          · have c_105 : ¬ y_104 = 0 := c_105
                            have lc_105 : ¬ x1 = 27988542884245108 := l_cmpne ey_104 c_105
                            refine lv_lload_n hx hb dX7_isOwn_108 rfl (lv_at hl 1 rfl) ?_
                            refine lv_ldc2 (v := 422607680115) hx hb hown w_13 dX7_isOwn_109 ?_
                            refine W.lcmp hx hb dX7_isOwn_112 ?_
                            refine lv_topi (fun y_112 ey_112 => ?_)
                            refine lv_if_eq (tgt := 124) hx hb dX7_isOwn_113 (by decide) (fun c_113 => ?_) (fun c_113 => ?_)
                            · have c_113 : y_112 = 0 := c_113
                              have f_124_1 : iR y_112 0 0 := iR_eqL c_113 (iR_top _) (iR_c (n := 0) (a := 0) (b := 0) (by decide +kernel) (by decide +kernel)) (by decide +kernel)
                              have lc_113 : x1 = 422607680115 := l_cmpe ey_112 c_113
                              exact J_124   H locs ls hP hD hS (lv_sub hl [] rfl)
                            · have c_113 : ¬ y_112 = 0 := c_113
                              have lc_113 : ¬ x1 = 422607680115 := l_cmpne ey_112 c_113
                              refine lv_lload_n hx hb dX7_isOwn_116 rfl (lv_at hl 1 rfl) ?_
                              refine lv_ldc2 (v := 1667329133) hx hb hown w_14 dX7_isOwn_117 ?_
                              refine W.lcmp hx hb dX7_isOwn_120 ?_
                              refine lv_topi (fun y_120 ey_120 => ?_)
                              refine lv_if_ne (tgt := 126) hx hb dX7_isOwn_121 (by decide) (fun c_121 => ?_) (fun c_121 => ?_)
                              · have c_121 : ¬ y_120 = 0 := c_121
                                have lc_121 : ¬ x1 = 1667329133 := l_cmpne ey_120 c_121
                                refine lv_lload_n hx hb dX7_isOwn_126 rfl (lv_at hl 1 rfl) ?_
                                refine lv_ldc2 (v := 6840676) hx hb hown w_15 dX7_isOwn_127 ?_
                                refine W.lcmp hx hb dX7_isOwn_130 ?_
                                refine lv_topi (fun y_130 ey_130 => ?_)
                                have J_166 : ∀   (H : Heap) (locs : List Loc) (ls : Array Slot), va_P (dC, dI) vwCl [] H → va_D A [] → va_S A s.heap H locs → lv_has ls 3 [] → W p l e ({ frames := 1, cells := 0, slots := 0, locals := 40 }) s m args below meth c H locs 0 0 (MQ below (va_Qi (fun (r9 : Int32) (u9 : Unit) => (iR r9 0 1)) (fun u => k_B (dC, dI) vwCl (tyy cI cJ cZ cM) A ((fun (u9 : Unit) => []) u)) A) args s 0 0 A) (F0 m 166 ls []) := by
                                  intro   H locs ls hP hD hS hl
                                  refine lv_iconst (v := 1) hx hb dX7_isOwn_166 (by decide +kernel) ?_
                                  exact k_ri B hP hD hS dX7_isOwn_167 () [] rfl rfl rfl (Nat.le_of_ble_eq_true rfl) (Nat.le_of_ble_eq_true rfl) (show iR 1 0 1 from (iR_c (n := 1) (a := 0) (b := 1) (by decide +kernel) (by decide +kernel)))
                                refine lv_if_eq (tgt := 166) hx hb dX7_isOwn_131 (by decide) (fun c_131 => ?_) (fun c_131 => ?_)
                                · have c_131 : y_130 = 0 := c_131
                                  have f_166_1 : iR y_130 0 0 := iR_eqL c_131 (iR_top _) (iR_c (n := 0) (a := 0) (b := 0) (by decide +kernel) (by decide +kernel)) (by decide +kernel)
                                  have lc_131 : x1 = 6840676 := l_cmpe ey_130 c_131
                                  exact J_166   H locs ls hP hD hS (lv_sub hl [] rfl)
                                · have c_131 : ¬ y_130 = 0 := c_131
                                  have lc_131 : ¬ x1 = 6840676 := l_cmpne ey_130 c_131
                                  refine lv_lload_n hx hb dX7_isOwn_134 rfl (lv_at hl 1 rfl) ?_
                                  refine lv_ldc2 (v := 7562593) hx hb hown w_16 dX7_isOwn_135 ?_
                                  refine W.lcmp hx hb dX7_isOwn_138 ?_
                                  refine lv_topi (fun y_138 ey_138 => ?_)
                                  refine lv_if_eq (tgt := 166) hx hb dX7_isOwn_139 (by decide) (fun c_139 => ?_) (fun c_139 => ?_)
                                  · have c_139 : y_138 = 0 := c_139
                                    have f_166_1 : iR y_138 0 0 := iR_eqL c_139 (iR_top _) (iR_c (n := 0) (a := 0) (b := 0) (by decide +kernel) (by decide +kernel)) (by decide +kernel)
                                    have lc_139 : x1 = 7562593 := l_cmpe ey_138 c_139
                                    exact J_166   H locs ls hP hD hS (lv_sub hl [] rfl)
                                  · have c_139 : ¬ y_138 = 0 := c_139
                                    have lc_139 : ¬ x1 = 7562593 := l_cmpne ey_138 c_139
                                    refine lv_lload_n hx hb dX7_isOwn_142 rfl (lv_at hl 1 rfl) ?_
                                    refine lv_ldc2 (v := 1935763812) hx hb hown w_17 dX7_isOwn_143 ?_
                                    refine W.lcmp hx hb dX7_isOwn_146 ?_
                                    refine lv_topi (fun y_146 ey_146 => ?_)
                                    refine lv_if_eq (tgt := 166) hx hb dX7_isOwn_147 (by decide) (fun c_147 => ?_) (fun c_147 => ?_)
                                    · have c_147 : y_146 = 0 := c_147
                                      have f_166_1 : iR y_146 0 0 := iR_eqL c_147 (iR_top _) (iR_c (n := 0) (a := 0) (b := 0) (by decide +kernel) (by decide +kernel)) (by decide +kernel)
                                      have lc_147 : x1 = 1935763812 := l_cmpe ey_146 c_147
                                      exact J_166   H locs ls hP hD hS (lv_sub hl [] rfl)
                                    · have c_147 : ¬ y_146 = 0 := c_147
                                      have lc_147 : ¬ x1 = 1935763812 := l_cmpne ey_146 c_147
                                      refine lv_lload_n hx hb dX7_isOwn_150 rfl (lv_at hl 1 rfl) ?_
                                      refine lv_ldc2 (v := 6578553) hx hb hown w_18 dX7_isOwn_151 ?_
                                      refine W.lcmp hx hb dX7_isOwn_154 ?_
                                      refine lv_topi (fun y_154 ey_154 => ?_)
                                      refine lv_if_eq (tgt := 166) hx hb dX7_isOwn_155 (by decide) (fun c_155 => ?_) (fun c_155 => ?_)
                                      · have c_155 : y_154 = 0 := c_155
                                        have f_166_1 : iR y_154 0 0 := iR_eqL c_155 (iR_top _) (iR_c (n := 0) (a := 0) (b := 0) (by decide +kernel) (by decide +kernel)) (by decide +kernel)
                                        have lc_155 : x1 = 6578553 := l_cmpe ey_154 c_155
                                        exact J_166   H locs ls hP hD hS (lv_sub hl [] rfl)
                                      · have c_155 : ¬ y_154 = 0 := c_155
                                        have lc_155 : ¬ x1 = 6578553 := l_cmpne ey_154 c_155
                                        refine lv_lload_n hx hb dX7_isOwn_158 rfl (lv_at hl 1 rfl) ?_
                                        refine lv_ldc2 (v := 28530) hx hb hown w_19 dX7_isOwn_159 ?_
                                        refine W.lcmp hx hb dX7_isOwn_162 ?_
                                        refine lv_topi (fun y_162 ey_162 => ?_)
                                        refine lv_if_ne (tgt := 168) hx hb dX7_isOwn_163 (by decide) (fun c_163 => ?_) (fun c_163 => ?_)
                                        · have c_163 : ¬ y_162 = 0 := c_163
                                          have lc_163 : ¬ x1 = 28530 := l_cmpne ey_162 c_163
                                          refine lv_lload_n hx hb dX7_isOwn_168 rfl (lv_at hl 1 rfl) ?_
                                          refine lv_ldc2 (v := 6385252) hx hb hown w_20 dX7_isOwn_169 ?_
                                          refine W.lcmp hx hb dX7_isOwn_172 ?_
                                          refine lv_topi (fun y_172 ey_172 => ?_)
                                          have J_208 : ∀   (H : Heap) (locs : List Loc) (ls : Array Slot), va_P (dC, dI) vwCl [] H → va_D A [] → va_S A s.heap H locs → lv_has ls 3 [] → W p l e ({ frames := 1, cells := 0, slots := 0, locals := 40 }) s m args below meth c H locs 0 0 (MQ below (va_Qi (fun (r9 : Int32) (u9 : Unit) => (iR r9 0 1)) (fun u => k_B (dC, dI) vwCl (tyy cI cJ cZ cM) A ((fun (u9 : Unit) => []) u)) A) args s 0 0 A) (F0 m 208 ls []) := by
                                            intro   H locs ls hP hD hS hl
                                            refine lv_iconst (v := 1) hx hb dX7_isOwn_208 (by decide +kernel) ?_
                                            exact k_ri B hP hD hS dX7_isOwn_209 () [] rfl rfl rfl (Nat.le_of_ble_eq_true rfl) (Nat.le_of_ble_eq_true rfl) (show iR 1 0 1 from (iR_c (n := 1) (a := 0) (b := 1) (by decide +kernel) (by decide +kernel)))
                                          refine lv_if_eq (tgt := 208) hx hb dX7_isOwn_173 (by decide) (fun c_173 => ?_) (fun c_173 => ?_)
                                          · have c_173 : y_172 = 0 := c_173
                                            have f_208_1 : iR y_172 0 0 := iR_eqL c_173 (iR_top _) (iR_c (n := 0) (a := 0) (b := 0) (by decide +kernel) (by decide +kernel)) (by decide +kernel)
                                            have lc_173 : x1 = 6385252 := l_cmpe ey_172 c_173
                                            exact J_208   H locs ls hP hD hS (lv_sub hl [] rfl)
                                          · have c_173 : ¬ y_172 = 0 := c_173
                                            have lc_173 : ¬ x1 = 6385252 := l_cmpne ey_172 c_173
                                            refine lv_lload_n hx hb dX7_isOwn_176 rfl (lv_at hl 1 rfl) ?_
                                            refine lv_ldc2 (v := 7237492) hx hb hown w_21 dX7_isOwn_177 ?_
                                            refine W.lcmp hx hb dX7_isOwn_180 ?_
                                            refine lv_topi (fun y_180 ey_180 => ?_)
                                            refine lv_if_eq (tgt := 208) hx hb dX7_isOwn_181 (by decide) (fun c_181 => ?_) (fun c_181 => ?_)
                                            · have c_181 : y_180 = 0 := c_181
                                              have f_208_1 : iR y_180 0 0 := iR_eqL c_181 (iR_top _) (iR_c (n := 0) (a := 0) (b := 0) (by decide +kernel) (by decide +kernel)) (by decide +kernel)
                                              have lc_181 : x1 = 7237492 := l_cmpe ey_180 c_181
                                              exact J_208   H locs ls hP hD hS (lv_sub hl [] rfl)
                                            · have c_181 : ¬ y_180 = 0 := c_181
                                              have lc_181 : ¬ x1 = 7237492 := l_cmpne ey_180 c_181
                                              refine lv_lload_n hx hb dX7_isOwn_184 rfl (lv_at hl 1 rfl) ?_
                                              refine lv_ldc2 (v := 6384748) hx hb hown w_22 dX7_isOwn_185 ?_
                                              refine W.lcmp hx hb dX7_isOwn_188 ?_
                                              refine lv_topi (fun y_188 ey_188 => ?_)
                                              refine lv_if_eq (tgt := 208) hx hb dX7_isOwn_189 (by decide) (fun c_189 => ?_) (fun c_189 => ?_)
                                              · have c_189 : y_188 = 0 := c_189
                                                have f_208_1 : iR y_188 0 0 := iR_eqL c_189 (iR_top _) (iR_c (n := 0) (a := 0) (b := 0) (by decide +kernel) (by decide +kernel)) (by decide +kernel)
                                                have lc_189 : x1 = 6384748 := l_cmpe ey_188 c_189
                                                exact J_208   H locs ls hP hD hS (lv_sub hl [] rfl)
                                              · have c_189 : ¬ y_188 = 0 := c_189
                                                have lc_189 : ¬ x1 = 6384748 := l_cmpne ey_188 c_189
                                                refine lv_lload_n hx hb dX7_isOwn_192 rfl (lv_at hl 1 rfl) ?_
                                                refine lv_ldc2 (v := 7170414) hx hb hown w_23 dX7_isOwn_193 ?_
                                                refine W.lcmp hx hb dX7_isOwn_196 ?_
                                                refine lv_topi (fun y_196 ey_196 => ?_)
                                                refine lv_if_eq (tgt := 208) hx hb dX7_isOwn_197 (by decide) (fun c_197 => ?_) (fun c_197 => ?_)
                                                · have c_197 : y_196 = 0 := c_197
                                                  have f_208_1 : iR y_196 0 0 := iR_eqL c_197 (iR_top _) (iR_c (n := 0) (a := 0) (b := 0) (by decide +kernel) (by decide +kernel)) (by decide +kernel)
                                                  have lc_197 : x1 = 7170414 := l_cmpe ey_196 c_197
                                                  exact J_208   H locs ls hP hD hS (lv_sub hl [] rfl)
                                                · have c_197 : ¬ y_196 = 0 := c_197
                                                  have lc_197 : ¬ x1 = 7170414 := l_cmpne ey_196 c_197
                                                  refine lv_lload_n hx hb dX7_isOwn_200 rfl (lv_at hl 1 rfl) ?_
                                                  refine lv_ldc2 (v := 7168376) hx hb hown w_24 dX7_isOwn_201 ?_
                                                  refine W.lcmp hx hb dX7_isOwn_204 ?_
                                                  refine lv_topi (fun y_204 ey_204 => ?_)
                                                  refine lv_if_ne (tgt := 210) hx hb dX7_isOwn_205 (by decide) (fun c_205 => ?_) (fun c_205 => ?_)
                                                  · have c_205 : ¬ y_204 = 0 := c_205
                                                    have lc_205 : ¬ x1 = 7168376 := l_cmpne ey_204 c_205
                                                    refine lv_iconst (v := 0) hx hb dX7_isOwn_210 (by decide +kernel) ?_
                                                    exact k_ri B hP hD hS dX7_isOwn_211 () [] rfl rfl rfl (Nat.le_of_ble_eq_true rfl) (Nat.le_of_ble_eq_true rfl) (show iR 0 0 1 from (iR_c (n := 0) (a := 0) (b := 1) (by decide +kernel) (by decide +kernel)))
                                                  · have c_205 : y_204 = 0 := c_205
                                                    have f_208_1 : iR y_204 0 0 := iR_eqL c_205 (iR_top _) (iR_c (n := 0) (a := 0) (b := 0) (by decide +kernel) (by decide +kernel)) (by decide +kernel)
                                                    have lc_205 : x1 = 7168376 := l_cmpe ey_204 c_205
                                                    exact J_208   H locs ls hP hD hS (lv_sub hl [] rfl)
                                        · have c_163 : y_162 = 0 := c_163
                                          have f_166_1 : iR y_162 0 0 := iR_eqL c_163 (iR_top _) (iR_c (n := 0) (a := 0) (b := 0) (by decide +kernel) (by decide +kernel)) (by decide +kernel)
                                          have lc_163 : x1 = 28530 := l_cmpe ey_162 c_163
                                          exact J_166   H locs ls hP hD hS (lv_sub hl [] rfl)
                              · have c_121 : y_120 = 0 := c_121
                                have f_124_1 : iR y_120 0 0 := iR_eqL c_121 (iR_top _) (iR_c (n := 0) (a := 0) (b := 0) (by decide +kernel) (by decide +kernel)) (by decide +kernel)
                                have lc_121 : x1 = 1667329133 := l_cmpe ey_120 c_121
                                exact J_124   H locs ls hP hD hS (lv_sub hl [] rfl)
                    · have c_79 : y_78 = 0 := c_79
                      have f_82_1 : iR y_78 0 0 := iR_eqL c_79 (iR_top _) (iR_c (n := 0) (a := 0) (b := 0) (by decide +kernel) (by decide +kernel)) (by decide +kernel)
                      have lc_79 : x1 = 439855772532 := l_cmpe ey_78 c_79
                      exact J_82   H locs ls hP hD hS (lv_sub hl [] rfl)
          · have c_37 : y_36 = 0 := c_37
            have f_40_1 : iR y_36 0 0 := iR_eqL c_37 (iR_top _) (iR_c (n := 0) (a := 0) (b := 0) (by decide +kernel) (by decide +kernel)) (by decide +kernel)
            have lc_37 : x1 = 2003399528 := l_cmpe ey_36 c_37
            exact J_40   H locs ls hP hD hS (lv_sub hl [] rfl)
set_option maxHeartbeats 8000000 in
set_option maxRecDepth 100000 in
theorem s_X7_manyOf_v6 (l : Launch) (dC : Nat → ClassId) (dI : Nat → Nat → Nat) (cI cJ cZ cM : ClassId) (h : Nat) (r : Nat → Nat) (i : Nat → Int32) (j : Nat → Int64) (x1 : Int32) (f14 : Nat → Int32) (hx1 : iR x1 0 1) (hI : mR i) (hf14 : aR f14 0 10) : k_Mi l yX7_manyOf wsX7_manyOf ({ frames := 1, cells := 0, slots := 0, locals := 40 }) (dC, dI) vwCl (tyy cI cJ cZ cM) [(h, .inr (7, oM r i j)), ((r 14), .inl (cI, 2, .inl f14))] [.ref h, .int x1, .int 0] 0 0 (fun (u9 : Unit) => [(h, .inr (7, oM r i j)), ((r 14), .inl (cI, 2, .inl f14))]) (fun (r9 : Int32) (u9 : Unit) => (r9 = (f14 x1.toNatClampNeg))) := by
  refine fun sz => k_enter (cc := cX7_manyOf) (maxL := 3) (ret := some (.int)) (Qc := fun A => va_Qi (fun (r9 : Int32) (u9 : Unit) => (r9 = (f14 x1.toNatClampNeg))) (fun u => k_B (dC, dI) vwCl (tyy cI cJ cZ cM) A ((fun (u9 : Unit) => [(h, .inr (7, oM r i j)), ((r 14), .inl (cI, 2, .inl f14))]) u)) A) sz (by decide +kernel) rfl (Nat.le_of_ble_eq_true rfl) (fun p e s m args below meth c A ls H locs B hP hD hS hl => ?_)
  obtain ⟨hx, hb, hml, hown, hts, hr, hlk, hnm, hK, hA, hN, hC⟩ := id B
  have hown : s.vm.findClass RX7 = some m.cls := hown
  have hl : lv_has ls 3 [(0, .ref h), (1, .int x1), (2, .int 0)] := hl
  have w_0 : (Cond.fieldLink RX7 54 "WishSeaModel" "things" "[I").before args s = true := hts _ (List.mem_of_getElem? (i := 1) rfl)
  have hinX7 : ∀ w ∈ u_ws RX7 TX7 92, w ∈ wsX7_manyOf := fun _ h => List.mem_cons_of_mem _ (List.mem_append_right _ h)
  refine lv_iload_n hx hb dX7_manyOf_0 rfl (lv_at hl 2 rfl) ?_
  refine lv_if_ne (tgt := 13) hx hb dX7_manyOf_1 (by decide) (fun q9 => absurd q9 (by decide +kernel)) (fun _ => ?_)
  refine lv_aload_n hx hb dX7_manyOf_4 rfl (lv_at hl 0 rfl) ?_
  refine k_get (D := (dC, dI)) (ci := 7) (v := .ref (r 14)) (C := RX7) (T := TX7) (N := 92) hx hb hts hinX7 hown hK hP 0 rfl rfl 14 (by decide) w_0 rfl rfl dX7_manyOf_5 ?_
  refine lv_iload_n hx hb dX7_manyOf_8 rfl (lv_at hl 1 rfl) ?_
  refine va_iald hx hb hK hP 1 0 rfl rfl (iR_vp hx1 (by decide +kernel)) dX7_manyOf_9 ?_
  have f_9_1 : iR (f14 x1.toNatClampNeg) 0 10 := hf14 _
  refine lv_goto (tgt := 19) hx hb dX7_manyOf_10 (by decide) ?_
  exact k_ri B hP hD hS dX7_manyOf_19 () [0, 1] rfl rfl rfl (Nat.le_of_ble_eq_true rfl) (Nat.le_of_ble_eq_true rfl) rfl
set_option maxHeartbeats 8000000 in
set_option maxRecDepth 100000 in
theorem s_X7_nameOf_v6 (l : Launch) (dC : Nat → ClassId) (dI : Nat → Nat → Nat) (cI cJ cZ cM : ClassId) (h : Nat) (r : Nat → Nat) (i : Nat → Int32) (j : Nat → Int64) (x1 : Int32) (x3 : Int32) (g34 : Nat → Int64) (hx1 : iR x1 0 1) (hx3 : iR x3 0 9) (hI : mR i) : k_Ml l yX7_nameOf wsX7_nameOf ({ frames := 1, cells := 0, slots := 0, locals := 40 }) (dC, dI) vwCl (tyy cI cJ cZ cM) [(h, .inr (7, oM r i j)), ((r 34), .inl (cJ, 20, .inr (.inl g34)))] [.ref h, .int x1, .int 0, .int x3] 0 0 (fun (u9 : Unit) => [(h, .inr (7, oM r i j)), ((r 34), .inl (cJ, 20, .inr (.inl g34)))]) (fun (r9 : Int64) (u9 : Unit) => True) := by
  refine fun sz => k_enter (cc := cX7_nameOf) (maxL := 4) (ret := some (.long)) (Qc := fun A => va_Ql (fun (r9 : Int64) (u9 : Unit) => True) (fun u => k_B (dC, dI) vwCl (tyy cI cJ cZ cM) A ((fun (u9 : Unit) => [(h, .inr (7, oM r i j)), ((r 34), .inl (cJ, 20, .inr (.inl g34)))]) u)) A) sz (by decide +kernel) rfl (Nat.le_of_ble_eq_true rfl) (fun p e s m args below meth c A ls H locs B hP hD hS hl => ?_)
  obtain ⟨hx, hb, hml, hown, hts, hr, hlk, hnm, hK, hA, hN, hC⟩ := id B
  have hown : s.vm.findClass RX7 = some m.cls := hown
  have hl : lv_has ls 4 [(0, .ref h), (1, .int x1), (2, .int 0), (3, .int x3)] := hl
  have w_0 : (Cond.fieldLink RX7 114 "WishSeaModel" "thingName" "[J").before args s = true := hts _ (List.mem_of_getElem? (i := 1) rfl)
  have hinX7 : ∀ w ∈ u_ws RX7 TX7 92, w ∈ wsX7_nameOf := fun _ h => List.mem_cons_of_mem _ (List.mem_append_right _ h)
  refine lv_iload_n hx hb dX7_nameOf_0 rfl (lv_at hl 2 rfl) ?_
  refine lv_if_ne (tgt := 18) hx hb dX7_nameOf_1 (by decide) (fun q9 => absurd q9 (by decide +kernel)) (fun _ => ?_)
  refine lv_aload_n hx hb dX7_nameOf_4 rfl (lv_at hl 0 rfl) ?_
  refine k_get (D := (dC, dI)) (ci := 7) (v := .ref (r 34)) (C := RX7) (T := TX7) (N := 92) hx hb hts hinX7 hown hK hP 0 rfl rfl 34 (by decide) w_0 rfl rfl dX7_nameOf_5 ?_
  refine lv_bipush (v := 10) hx hb dX7_nameOf_8 (by decide +kernel) ?_
  refine lv_iload_n hx hb dX7_nameOf_10 rfl (lv_at hl 1 rfl) ?_
  refine lv_imul hx hb dX7_nameOf_11 ?_
  refine lv_topi (fun y_11 ey_11 => ?_)
  have f_11_1 : iR y_11 0 10 := iR_mul ey_11 (iR_c (n := 10) (a := 10) (b := 10) (by decide +kernel) (by decide +kernel)) hx1 (by decide +kernel)
  refine lv_iload_n hx hb dX7_nameOf_12 rfl (lv_at hl 3 rfl) ?_
  refine lv_iadd hx hb dX7_nameOf_13 ?_
  refine lv_topi (fun y_13 ey_13 => ?_)
  have f_13_2 : iR y_13 0 19 := iR_add ey_13 f_11_1 hx3 (by decide +kernel)
  refine va_lald hx hb hK hP 1 1 rfl rfl (iR_vp f_13_2 (by decide +kernel)) dX7_nameOf_14 ?_
  refine lv_goto (tgt := 29) hx hb dX7_nameOf_15 (by decide) ?_
  exact k_rl B hP hD hS dX7_nameOf_29 () [0, 1] rfl rfl (Nat.le_of_ble_eq_true rfl) (Nat.le_of_ble_eq_true rfl) trivial
