set_option maxHeartbeats 8000000 in
set_option maxRecDepth 100000 in
theorem s_X7_twoBytes_v2 (l : Launch) (dC : Nat → ClassId) (dI : Nat → Nat → Nat) (cI cJ cZ cM : ClassId) (h : Nat) (r : Nat → Nat) (i : Nat → Int32) (j : Nat → Int64) (f0 : Nat → Int32) (hI : mR i) (hf0 : aR f0 0 255) : k_Mi l yX7_twoBytes wsX7_twoBytes ({ frames := 1, cells := 0, slots := 0, locals := 40 }) (dC, dI) vwCl (tyy cI cJ cZ cM) [(h, .inr (7, oM r i j)), ((r 0), .inl (cI, 1800, .inl f0))] [.ref h, .int 4] 0 0 (fun (u9 : Unit) => [(h, .inr (7, oM r i j)), ((r 0), .inl (cI, 1800, .inl f0))]) (fun (r9 : Int32) (u9 : Unit) => (iR r9 0 65535) ∧ (r9 = (w2b f0 4))) := by
  refine fun sz => k_enter (cc := cX7_twoBytes) (maxL := 2) (ret := some (.int)) (Qc := fun A => va_Qi (fun (r9 : Int32) (u9 : Unit) => (iR r9 0 65535) ∧ (r9 = (w2b f0 4))) (fun u => k_B (dC, dI) vwCl (tyy cI cJ cZ cM) A ((fun (u9 : Unit) => [(h, .inr (7, oM r i j)), ((r 0), .inl (cI, 1800, .inl f0))]) u)) A) sz (by decide +kernel) rfl (Nat.le_of_ble_eq_true rfl) (fun p e s m args below meth c A ls H locs B hP hD hS hl => ?_)
  obtain ⟨hx, hb, hml, hown, hts, hr, hlk, hnm, hK, hA, hN, hC⟩ := id B
  have hown : s.vm.findClass RX7 = some m.cls := hown
  have hl : lv_has ls 2 [(0, .ref h), (1, .int 4)] := hl
  have w_0 : (Cond.fieldLink RX7 7 "WishSeaModel" "tape" "[I").before args s = true := hts _ (List.mem_of_getElem? (i := 1) rfl)
  have hinX7 : ∀ w ∈ u_ws RX7 TX7 92, w ∈ wsX7_twoBytes := fun _ h => List.mem_cons_of_mem _ (List.mem_append_right _ h)
  refine lv_aload_n hx hb dX7_twoBytes_0 rfl (lv_at hl 0 rfl) ?_
  refine k_get (D := (dC, dI)) (ci := 7) (v := .ref (r 0)) (C := RX7) (T := TX7) (N := 92) hx hb hts hinX7 hown hK hP 0 rfl rfl 0 (by decide) w_0 rfl rfl dX7_twoBytes_1 ?_
  refine lv_iload_n hx hb dX7_twoBytes_4 rfl (lv_at hl 1 rfl) ?_
  refine k_iald (v := (f0 4)) hx hb hK hP 1 0 4 rfl rfl rfl (Nat.le_of_ble_eq_true rfl) (Nat.le_of_ble_eq_true rfl) rfl dX7_twoBytes_5 ?_
  have f_5_1 : iR (f0 4) 0 255 := hf0 _
  refine lv_bipush (v := 8) hx hb dX7_twoBytes_6 (by decide +kernel) ?_
  refine lv_ishl hx hb dX7_twoBytes_8 ?_
  refine lv_topi (fun y_8 ey_8 => ?_)
  have f_8_2 : iR y_8 0 65280 := iR_shl 8 ey_8 f_5_1 (iR_c (n := 8) (a := 8) (b := 8) (by decide +kernel) (by decide +kernel)) (by decide +kernel)
  refine lv_aload_n hx hb dX7_twoBytes_9 rfl (lv_at hl 0 rfl) ?_
  refine k_get (D := (dC, dI)) (ci := 7) (v := .ref (r 0)) (C := RX7) (T := TX7) (N := 92) hx hb hts hinX7 hown hK hP 0 rfl rfl 0 (by decide) w_0 rfl rfl dX7_twoBytes_10 ?_
  refine lv_iload_n hx hb dX7_twoBytes_13 rfl (lv_at hl 1 rfl) ?_
  refine lv_iconst (v := 1) hx hb dX7_twoBytes_14 (by decide +kernel) ?_
  refine lv_iadd hx hb dX7_twoBytes_15 ?_
  refine k_int (v := 5) (by decide +kernel) ?_
  refine k_iald (v := (f0 5)) hx hb hK hP 1 0 5 rfl rfl rfl (Nat.le_of_ble_eq_true rfl) (Nat.le_of_ble_eq_true rfl) rfl dX7_twoBytes_16 ?_
  have f_16_3 : iR (f0 5) 0 255 := hf0 _
  refine lv_ior hx hb dX7_twoBytes_17 ?_
  refine lv_topi (fun y_17 ey_17 => ?_)
  have f_17_4 : iR y_17 0 65535 := iR_or 16 ey_17 f_8_2 f_16_3 (by decide +kernel)
  exact k_ri B hP hD hS dX7_twoBytes_18 () [0, 1] rfl rfl rfl (Nat.le_of_ble_eq_true rfl) (Nat.le_of_ble_eq_true rfl) ⟨(show iR y_17 0 65535 from f_17_4), (show y_17 = (w2b f0 4) from (by rw [ey_17, ey_8]; rfl))⟩
set_option maxHeartbeats 8000000 in
set_option maxRecDepth 100000 in
theorem s_X7_twoBytes_v3 (l : Launch) (dC : Nat → ClassId) (dI : Nat → Nat → Nat) (cI cJ cZ cM : ClassId) (h : Nat) (r : Nat → Nat) (i : Nat → Int32) (j : Nat → Int64) (f0 : Nat → Int32) (hI : mR i) (hf0 : aR f0 0 255) : k_Mi l yX7_twoBytes wsX7_twoBytes ({ frames := 1, cells := 0, slots := 0, locals := 40 }) (dC, dI) vwCl (tyy cI cJ cZ cM) [(h, .inr (7, oM r i j)), ((r 0), .inl (cI, 1800, .inl f0))] [.ref h, .int 6] 0 0 (fun (u9 : Unit) => [(h, .inr (7, oM r i j)), ((r 0), .inl (cI, 1800, .inl f0))]) (fun (r9 : Int32) (u9 : Unit) => (iR r9 0 65535) ∧ (r9 = (w2b f0 6))) := by
  refine fun sz => k_enter (cc := cX7_twoBytes) (maxL := 2) (ret := some (.int)) (Qc := fun A => va_Qi (fun (r9 : Int32) (u9 : Unit) => (iR r9 0 65535) ∧ (r9 = (w2b f0 6))) (fun u => k_B (dC, dI) vwCl (tyy cI cJ cZ cM) A ((fun (u9 : Unit) => [(h, .inr (7, oM r i j)), ((r 0), .inl (cI, 1800, .inl f0))]) u)) A) sz (by decide +kernel) rfl (Nat.le_of_ble_eq_true rfl) (fun p e s m args below meth c A ls H locs B hP hD hS hl => ?_)
  obtain ⟨hx, hb, hml, hown, hts, hr, hlk, hnm, hK, hA, hN, hC⟩ := id B
  have hown : s.vm.findClass RX7 = some m.cls := hown
  have hl : lv_has ls 2 [(0, .ref h), (1, .int 6)] := hl
  have w_0 : (Cond.fieldLink RX7 7 "WishSeaModel" "tape" "[I").before args s = true := hts _ (List.mem_of_getElem? (i := 1) rfl)
  have hinX7 : ∀ w ∈ u_ws RX7 TX7 92, w ∈ wsX7_twoBytes := fun _ h => List.mem_cons_of_mem _ (List.mem_append_right _ h)
  refine lv_aload_n hx hb dX7_twoBytes_0 rfl (lv_at hl 0 rfl) ?_
  refine k_get (D := (dC, dI)) (ci := 7) (v := .ref (r 0)) (C := RX7) (T := TX7) (N := 92) hx hb hts hinX7 hown hK hP 0 rfl rfl 0 (by decide) w_0 rfl rfl dX7_twoBytes_1 ?_
  refine lv_iload_n hx hb dX7_twoBytes_4 rfl (lv_at hl 1 rfl) ?_
  refine k_iald (v := (f0 6)) hx hb hK hP 1 0 6 rfl rfl rfl (Nat.le_of_ble_eq_true rfl) (Nat.le_of_ble_eq_true rfl) rfl dX7_twoBytes_5 ?_
  have f_5_1 : iR (f0 6) 0 255 := hf0 _
  refine lv_bipush (v := 8) hx hb dX7_twoBytes_6 (by decide +kernel) ?_
  refine lv_ishl hx hb dX7_twoBytes_8 ?_
  refine lv_topi (fun y_8 ey_8 => ?_)
  have f_8_2 : iR y_8 0 65280 := iR_shl 8 ey_8 f_5_1 (iR_c (n := 8) (a := 8) (b := 8) (by decide +kernel) (by decide +kernel)) (by decide +kernel)
  refine lv_aload_n hx hb dX7_twoBytes_9 rfl (lv_at hl 0 rfl) ?_
  refine k_get (D := (dC, dI)) (ci := 7) (v := .ref (r 0)) (C := RX7) (T := TX7) (N := 92) hx hb hts hinX7 hown hK hP 0 rfl rfl 0 (by decide) w_0 rfl rfl dX7_twoBytes_10 ?_
  refine lv_iload_n hx hb dX7_twoBytes_13 rfl (lv_at hl 1 rfl) ?_
  refine lv_iconst (v := 1) hx hb dX7_twoBytes_14 (by decide +kernel) ?_
  refine lv_iadd hx hb dX7_twoBytes_15 ?_
  refine k_int (v := 7) (by decide +kernel) ?_
  refine k_iald (v := (f0 7)) hx hb hK hP 1 0 7 rfl rfl rfl (Nat.le_of_ble_eq_true rfl) (Nat.le_of_ble_eq_true rfl) rfl dX7_twoBytes_16 ?_
  have f_16_3 : iR (f0 7) 0 255 := hf0 _
  refine lv_ior hx hb dX7_twoBytes_17 ?_
  refine lv_topi (fun y_17 ey_17 => ?_)
  have f_17_4 : iR y_17 0 65535 := iR_or 16 ey_17 f_8_2 f_16_3 (by decide +kernel)
  exact k_ri B hP hD hS dX7_twoBytes_18 () [0, 1] rfl rfl rfl (Nat.le_of_ble_eq_true rfl) (Nat.le_of_ble_eq_true rfl) ⟨(show iR y_17 0 65535 from f_17_4), (show y_17 = (w2b f0 6) from (by rw [ey_17, ey_8]; rfl))⟩
set_option maxHeartbeats 8000000 in
set_option maxRecDepth 100000 in
theorem s_X7_canBe_v0 (l : Launch) (dC : Nat → ClassId) (dI : Nat → Nat → Nat) (cI cJ cZ cM : ClassId) (h : Nat) (r : Nat → Nat) (i : Nat → Int32) (j : Nat → Int64) (x1 : Int32) (f0 : Nat → Int32) (f14 : Nat → Int32) (f30 : Nat → Int32) (hI : mR i) (hf0 : aR f0 0 255) (hf14 : aR f14 0 10) (hf30 : aR f30 0 999) : k_Mi l yX7_canBe wsX7_canBe ({ frames := 2, cells := 0, slots := 0, locals := 61 }) (dC, dI) vwCl (tyy cI cJ cZ cM) [(h, .inr (7, oM r i j)), ((r 0), .inl (cI, 1800, .inl f0)), ((r 14), .inl (cI, 2, .inl f14)), ((r 30), .inl (cI, 2, .inl f30))] [.ref h, .int x1] 0 0 (fun (u9 : Unit) => [(h, .inr (7, oM r i j)), ((r 0), .inl (cI, 1800, .inl f0)), ((r 14), .inl (cI, 2, .inl f14)), ((r 30), .inl (cI, 2, .inl f30))]) (fun (r9 : Int32) (u9 : Unit) => (iR r9 0 1) ∧ ((r9 = 0) ∨ (((w2b f0 4) ≤ (f30 (i 13).toNatClampNeg)) ∧ ((w2b f0 6) ≤ 1023)))) := by
  refine fun sz => k_enter (cc := cX7_canBe) (maxL := 4) (ret := some (.boolean)) (Qc := fun A => va_Qi (fun (r9 : Int32) (u9 : Unit) => (iR r9 0 1) ∧ ((r9 = 0) ∨ (((w2b f0 4) ≤ (f30 (i 13).toNatClampNeg)) ∧ ((w2b f0 6) ≤ 1023)))) (fun u => k_B (dC, dI) vwCl (tyy cI cJ cZ cM) A ((fun (u9 : Unit) => [(h, .inr (7, oM r i j)), ((r 0), .inl (cI, 1800, .inl f0)), ((r 14), .inl (cI, 2, .inl f14)), ((r 30), .inl (cI, 2, .inl f30))]) u)) A) sz (by decide +kernel) rfl (Nat.le_of_ble_eq_true rfl) (fun p e s m args below meth c A ls H locs B hP hD hS hl => ?_)
  obtain ⟨hx, hb, hml, hown, hts, hr, hlk, hnm, hK, hA, hN, hC⟩ := id B
  have hown : s.vm.findClass RX7 = some m.cls := hown
  have hl : lv_has ls 4 [(0, .ref h), (1, .int x1)] := hl
  have w_0 : (Cond.fieldLink RX7 102 "WishSeaModel" "bearing" "[I").before args s = true := hts _ (List.mem_of_getElem? (i := 1) rfl)
  have w_1 : (Cond.fieldLink RX7 51 "WishSeaModel" "bank" "I").before args s = true := hts _ (List.mem_of_getElem? (i := 2) rfl)
  have w_2 : (Cond.fieldLink RX7 54 "WishSeaModel" "things" "[I").before args s = true := hts _ (List.mem_of_getElem? (i := 3) rfl)
  have w_3 : (Cond.fieldLink RX7 7 "WishSeaModel" "tape" "[I").before args s = true := hts _ (List.mem_of_getElem? (i := 4) rfl)
  have hinX7 : ∀ w ∈ u_ws RX7 TX7 92, w ∈ wsX7_canBe := fun _ h => List.mem_cons_of_mem _ (List.mem_append_right _ h)
  refine lv_iload_n hx hb dX7_canBe_0 rfl (lv_at hl 1 rfl) ?_
  refine lv_bipush (v := 9) hx hb dX7_canBe_1 (by decide +kernel) ?_
  have J_65 : ∀   (H : Heap) (locs : List Loc) (ls : Array Slot), va_P (dC, dI) vwCl [(h, .inr (7, oM r i j)), ((r 0), .inl (cI, 1800, .inl f0)), ((r 14), .inl (cI, 2, .inl f14)), ((r 30), .inl (cI, 2, .inl f30))] H → va_D A [(h, .inr (7, oM r i j)), ((r 0), .inl (cI, 1800, .inl f0)), ((r 14), .inl (cI, 2, .inl f14)), ((r 30), .inl (cI, 2, .inl f30))] → va_S A s.heap H locs → lv_has ls 4 [] → W p l e ({ frames := 2, cells := 0, slots := 0, locals := 61 }) s m args below meth c H locs 0 0 (MQ below (va_Qi (fun (r9 : Int32) (u9 : Unit) => (iR r9 0 1) ∧ ((r9 = 0) ∨ (((w2b f0 4) ≤ (f30 (i 13).toNatClampNeg)) ∧ ((w2b f0 6) ≤ 1023)))) (fun u => k_B (dC, dI) vwCl (tyy cI cJ cZ cM) A ((fun (u9 : Unit) => [(h, .inr (7, oM r i j)), ((r 0), .inl (cI, 1800, .inl f0)), ((r 14), .inl (cI, 2, .inl f14)), ((r 30), .inl (cI, 2, .inl f30))]) u)) A) args s 0 0 A) (F0 m 65 ls []) := by
    intro   H locs ls hP hD hS hl
    refine lv_iconst (v := 0) hx hb dX7_canBe_65 (by decide +kernel) ?_
    exact k_ri B hP hD hS dX7_canBe_66 () [0, 1, 2, 3] rfl rfl rfl (Nat.le_of_ble_eq_true rfl) (Nat.le_of_ble_eq_true rfl) ⟨(show iR 0 0 1 from (iR_c (n := 0) (a := 0) (b := 1) (by decide +kernel) (by decide +kernel))), (show (0 = 0) ∨ (((w2b f0 4) ≤ (f30 (i 13).toNatClampNeg)) ∧ ((w2b f0 6) ≤ 1023)) from (Or.inl rfl))⟩
  refine lv_icmp_ne (tgt := 65) hx hb dX7_canBe_3 (by decide) (fun c_3 => ?_) (fun c_3 => ?_)
  · have c_3 : ¬ x1 = 9 := c_3
    exact J_65   H locs ls hP hD hS (lv_sub hl [] rfl)
  · have c_3 : x1 = 9 := c_3
    have f_6_1 : iR x1 9 9 := iR_eqL c_3 (iR_top _) (iR_c (n := 9) (a := 9) (b := 9) (by decide +kernel) (by decide +kernel)) (by decide +kernel)
    refine lv_aload_n hx hb dX7_canBe_6 rfl (lv_at hl 0 rfl) ?_
    refine lv_iconst (v := 0) hx hb dX7_canBe_7 (by decide +kernel) ?_
    refine k_ci (wc := [(h, .inr (7, oM r i j)), ((r 0), .inl (cI, 1800, .inl f0))]) (wr := [((r 14), .inl (cI, 2, .inl f14)), ((r 30), .inl (cI, 2, .inl f30))]) (fun hPc hDc hFc => va_runV (As := [.int 0]) (rest := []) ⟨hx, hb, hml, hown, hts⟩ (s_X7_twoBytes_v0 l dC dI cI cJ cZ cM h r i j f0 hI hf0 H.size) (cwV 1 hts gX7_canBe_X7_twoBytes rfl rfl rfl (by decide +kernel) ⟨(Nat.le_of_ble_eq_true rfl), (Nat.le_of_ble_eq_true rfl)⟩) (k_pV hPc hDc hK hN hC hS hFc hP (q0 := 0) (ci := 7) rfl rfl) rfl rfl hl.1 rfl (lv_room (Nat.le_of_ble_eq_true rfl)) dX7_canBe_8 ⟨(Nat.le_of_ble_eq_true rfl), (Nat.le_of_ble_eq_true rfl)⟩) hP hD hS hA [0, 1] [2, 3] rfl rfl rfl rfl (by decide) (fun _ => rfl) 0 0 rfl rfl (fun r_8 u_8 H locs hw hP hD hS => ?_)
    obtain ⟨g_8_0, g_8_1⟩ := hw
    obtain rfl : r_8 = (w2b f0 0) := g_8_1
    have hP : va_P (dC, dI) vwCl [((r 14), .inl (cI, 2, .inl f14)), ((r 30), .inl (cI, 2, .inl f30)), (h, .inr (7, oM r i j)), ((r 0), .inl (cI, 1800, .inl f0))] H := hP
    have hD : va_D A [((r 14), .inl (cI, 2, .inl f14)), ((r 30), .inl (cI, 2, .inl f30)), (h, .inr (7, oM r i j)), ((r 0), .inl (cI, 1800, .inl f0))] := hD
    refine lv_sipush (v := 9999) hx hb dX7_canBe_11 (by decide +kernel) ?_
    refine lv_icmp_gt (tgt := 65) hx hb dX7_canBe_14 (by decide) (fun c_14 => ?_) (fun c_14 => ?_)
    · have c_14 : 9999 < (w2b f0 0) := c_14
      have f_65_2 : iR (w2b f0 0) 10000 65535 := iR_ltR c_14 (iR_c (n := 9999) (a := 9999) (b := 9999) (by decide +kernel) (by decide +kernel)) g_8_0 (by decide +kernel)
      exact J_65   H locs ls (hP.sub [2, 3, 0, 1] rfl) (hD.sub [2, 3, 0, 1] (by decide +kernel) rfl) hS (lv_sub hl [] rfl)
    · have c_14 : (w2b f0 0) ≤ 9999 := i_nlt c_14
      have f_17_2 : iR (w2b f0 0) 0 9999 := iR_leL c_14 g_8_0 (iR_c (n := 9999) (a := 9999) (b := 9999) (by decide +kernel) (by decide +kernel)) (by decide +kernel)
      refine lv_aload_n hx hb dX7_canBe_17 rfl (lv_at hl 0 rfl) ?_
      refine lv_iconst (v := 2) hx hb dX7_canBe_18 (by decide +kernel) ?_
      refine k_ci (wc := [(h, .inr (7, oM r i j)), ((r 0), .inl (cI, 1800, .inl f0))]) (wr := [((r 14), .inl (cI, 2, .inl f14)), ((r 30), .inl (cI, 2, .inl f30))]) (fun hPc hDc hFc => va_runV (As := [.int 2]) (rest := []) ⟨hx, hb, hml, hown, hts⟩ (s_X7_twoBytes_v1 l dC dI cI cJ cZ cM h r i j f0 hI hf0 H.size) (cwV 1 hts gX7_canBe_X7_twoBytes rfl rfl rfl (by decide +kernel) ⟨(Nat.le_of_ble_eq_true rfl), (Nat.le_of_ble_eq_true rfl)⟩) (k_pV hPc hDc hK hN hC hS hFc hP (q0 := 2) (ci := 7) rfl rfl) rfl rfl hl.1 rfl (lv_room (Nat.le_of_ble_eq_true rfl)) dX7_canBe_19 ⟨(Nat.le_of_ble_eq_true rfl), (Nat.le_of_ble_eq_true rfl)⟩) hP hD hS hA [2, 3] [0, 1] rfl rfl rfl rfl (by decide) (fun _ => rfl) 0 0 rfl rfl (fun r_19 u_19 H locs hw hP hD hS => ?_)
      obtain ⟨g_19_0, g_19_1⟩ := hw
      obtain rfl : r_19 = (w2b f0 2) := g_19_1
      have hP : va_P (dC, dI) vwCl [((r 14), .inl (cI, 2, .inl f14)), ((r 30), .inl (cI, 2, .inl f30)), (h, .inr (7, oM r i j)), ((r 0), .inl (cI, 1800, .inl f0))] H := hP
      have hD : va_D A [((r 14), .inl (cI, 2, .inl f14)), ((r 30), .inl (cI, 2, .inl f30)), (h, .inr (7, oM r i j)), ((r 0), .inl (cI, 1800, .inl f0))] := hD
      refine lv_sipush (v := 9999) hx hb dX7_canBe_22 (by decide +kernel) ?_
      refine lv_icmp_gt (tgt := 65) hx hb dX7_canBe_25 (by decide) (fun c_25 => ?_) (fun c_25 => ?_)
      · have c_25 : 9999 < (w2b f0 2) := c_25
        have f_65_3 : iR (w2b f0 2) 10000 65535 := iR_ltR c_25 (iR_c (n := 9999) (a := 9999) (b := 9999) (by decide +kernel) (by decide +kernel)) g_19_0 (by decide +kernel)
        exact J_65   H locs ls (hP.sub [2, 3, 0, 1] rfl) (hD.sub [2, 3, 0, 1] (by decide +kernel) rfl) hS (lv_sub hl [] rfl)
      · have c_25 : (w2b f0 2) ≤ 9999 := i_nlt c_25
        have f_28_3 : iR (w2b f0 2) 0 9999 := iR_leL c_25 g_19_0 (iR_c (n := 9999) (a := 9999) (b := 9999) (by decide +kernel) (by decide +kernel)) (by decide +kernel)
        refine lv_aload_n hx hb dX7_canBe_28 rfl (lv_at hl 0 rfl) ?_
        refine lv_iconst (v := 4) hx hb dX7_canBe_29 (by decide +kernel) ?_
        refine k_ci (wc := [(h, .inr (7, oM r i j)), ((r 0), .inl (cI, 1800, .inl f0))]) (wr := [((r 14), .inl (cI, 2, .inl f14)), ((r 30), .inl (cI, 2, .inl f30))]) (fun hPc hDc hFc => va_runV (As := [.int 4]) (rest := []) ⟨hx, hb, hml, hown, hts⟩ (s_X7_twoBytes_v2 l dC dI cI cJ cZ cM h r i j f0 hI hf0 H.size) (cwV 1 hts gX7_canBe_X7_twoBytes rfl rfl rfl (by decide +kernel) ⟨(Nat.le_of_ble_eq_true rfl), (Nat.le_of_ble_eq_true rfl)⟩) (k_pV hPc hDc hK hN hC hS hFc hP (q0 := 2) (ci := 7) rfl rfl) rfl rfl hl.1 rfl (lv_room (Nat.le_of_ble_eq_true rfl)) dX7_canBe_30 ⟨(Nat.le_of_ble_eq_true rfl), (Nat.le_of_ble_eq_true rfl)⟩) hP hD hS hA [2, 3] [0, 1] rfl rfl rfl rfl (by decide) (fun _ => rfl) 0 0 rfl rfl (fun r_30 u_30 H locs hw hP hD hS => ?_)
        obtain ⟨g_30_0, g_30_1⟩ := hw
        obtain rfl : r_30 = (w2b f0 4) := g_30_1
        have hP : va_P (dC, dI) vwCl [((r 14), .inl (cI, 2, .inl f14)), ((r 30), .inl (cI, 2, .inl f30)), (h, .inr (7, oM r i j)), ((r 0), .inl (cI, 1800, .inl f0))] H := hP
        have hD : va_D A [((r 14), .inl (cI, 2, .inl f14)), ((r 30), .inl (cI, 2, .inl f30)), (h, .inr (7, oM r i j)), ((r 0), .inl (cI, 1800, .inl f0))] := hD
        refine lv_aload_n hx hb dX7_canBe_33 rfl (lv_at hl 0 rfl) ?_
        refine k_get (D := (dC, dI)) (ci := 7) (v := .ref (r 30)) (C := RX7) (T := TX7) (N := 92) hx hb hts hinX7 hown hK hP 2 rfl rfl 30 (by decide) w_0 rfl rfl dX7_canBe_34 ?_
        refine lv_aload_n hx hb dX7_canBe_37 rfl (lv_at hl 0 rfl) ?_
        have f_38_4 : iR (i 13) 0 1 := hI 13
        refine k_get (D := (dC, dI)) (ci := 7) (v := .int (i 13)) (C := RX7) (T := TX7) (N := 92) hx hb hts hinX7 hown hK hP 2 rfl rfl 13 (by decide) w_1 rfl rfl dX7_canBe_38 ?_
        refine va_iald hx hb hK hP 1 0 rfl rfl (iR_vp f_38_4 (by decide +kernel)) dX7_canBe_41 ?_
        have f_41_5 : iR (f30 (i 13).toNatClampNeg) 0 999 := hf30 _
        refine lv_icmp_gt (tgt := 65) hx hb dX7_canBe_42 (by decide) (fun c_42 => ?_) (fun c_42 => ?_)
        · have c_42 : (f30 (i 13).toNatClampNeg) < (w2b f0 4) := c_42
          have f_65_6 : iR (w2b f0 4) 1 65535 := iR_ltR c_42 f_41_5 g_30_0 (by decide +kernel)
          exact J_65   H locs ls (hP.sub [2, 3, 0, 1] rfl) (hD.sub [2, 3, 0, 1] (by decide +kernel) rfl) hS (lv_sub hl [] rfl)
        · have c_42 : (w2b f0 4) ≤ (f30 (i 13).toNatClampNeg) := i_nlt c_42
          have f_45_6 : iR (w2b f0 4) 0 999 := iR_leL c_42 g_30_0 f_41_5 (by decide +kernel)
          refine lv_aload_n hx hb dX7_canBe_45 rfl (lv_at hl 0 rfl) ?_
          refine lv_bipush (v := 6) hx hb dX7_canBe_46 (by decide +kernel) ?_
          refine k_ci (wc := [(h, .inr (7, oM r i j)), ((r 0), .inl (cI, 1800, .inl f0))]) (wr := [((r 14), .inl (cI, 2, .inl f14)), ((r 30), .inl (cI, 2, .inl f30))]) (fun hPc hDc hFc => va_runV (As := [.int 6]) (rest := []) ⟨hx, hb, hml, hown, hts⟩ (s_X7_twoBytes_v3 l dC dI cI cJ cZ cM h r i j f0 hI hf0 H.size) (cwV 1 hts gX7_canBe_X7_twoBytes rfl rfl rfl (by decide +kernel) ⟨(Nat.le_of_ble_eq_true rfl), (Nat.le_of_ble_eq_true rfl)⟩) (k_pV hPc hDc hK hN hC hS hFc hP (q0 := 2) (ci := 7) rfl rfl) rfl rfl hl.1 rfl (lv_room (Nat.le_of_ble_eq_true rfl)) dX7_canBe_48 ⟨(Nat.le_of_ble_eq_true rfl), (Nat.le_of_ble_eq_true rfl)⟩) hP hD hS hA [2, 3] [0, 1] rfl rfl rfl rfl (by decide) (fun _ => rfl) 0 0 rfl rfl (fun r_48 u_48 H locs hw hP hD hS => ?_)
          obtain ⟨g_48_0, g_48_1⟩ := hw
          obtain rfl : r_48 = (w2b f0 6) := g_48_1
          have hP : va_P (dC, dI) vwCl [((r 14), .inl (cI, 2, .inl f14)), ((r 30), .inl (cI, 2, .inl f30)), (h, .inr (7, oM r i j)), ((r 0), .inl (cI, 1800, .inl f0))] H := hP
          have hD : va_D A [((r 14), .inl (cI, 2, .inl f14)), ((r 30), .inl (cI, 2, .inl f30)), (h, .inr (7, oM r i j)), ((r 0), .inl (cI, 1800, .inl f0))] := hD
          refine lv_iconst (v := 1) hx hb dX7_canBe_51 (by decide +kernel) ?_
          refine lv_aload_n hx hb dX7_canBe_52 rfl (lv_at hl 0 rfl) ?_
          refine k_get (D := (dC, dI)) (ci := 7) (v := .ref (r 14)) (C := RX7) (T := TX7) (N := 92) hx hb hts hinX7 hown hK hP 2 rfl rfl 14 (by decide) w_2 rfl rfl dX7_canBe_53 ?_
          refine lv_aload_n hx hb dX7_canBe_56 rfl (lv_at hl 0 rfl) ?_
          refine k_get (D := (dC, dI)) (ci := 7) (v := .int (i 13)) (C := RX7) (T := TX7) (N := 92) hx hb hts hinX7 hown hK hP 2 rfl rfl 13 (by decide) w_1 rfl rfl dX7_canBe_57 ?_
          refine va_iald hx hb hK hP 0 0 rfl rfl (iR_vp f_38_4 (by decide +kernel)) dX7_canBe_60 ?_
          have f_60_7 : iR (f14 (i 13).toNatClampNeg) 0 10 := hf14 _
          refine lv_ishl hx hb dX7_canBe_61 ?_
          refine lv_topi (fun y_61 ey_61 => ?_)
          have f_61_8 : iR y_61 1 1024 := iR_shl 10 ey_61 (iR_c (n := 1) (a := 1) (b := 1) (by decide +kernel) (by decide +kernel)) f_60_7 (by decide +kernel)
          refine lv_icmp_lt (tgt := 67) hx hb dX7_canBe_62 (by decide) (fun c_62 => ?_) (fun c_62 => ?_)
          · have c_62 : (w2b f0 6) < y_61 := c_62
            have f_67_9 : iR (w2b f0 6) 0 1023 := iR_ltL c_62 g_48_0 f_61_8 (by decide +kernel)
            refine lv_bipush (v := 97) hx hb dX7_canBe_67 (by decide +kernel) ?_
            refine lv_istore_n (lv' := [(2, .int 97), (0, .ref h), (1, .int x1)]) hx hb dX7_canBe_69 rfl hl (by decide) rfl (fun ls hl => ?_)
            refine lv_iconst (v := 0) hx hb dX7_canBe_70 (by decide +kernel) ?_
            have J_72 : ∀ (n_72 : Nat) (j72_L2 : Int32) (j72_L3 : Int32) (hj72_L2 : iR j72_L2 0 250) (hj72_L3 : iR j72_L3 0 8) (hm_72 : (8 - j72_L3.toInt).toNat < n_72) (H : Heap) (locs : List Loc) (ls : Array Slot), va_P (dC, dI) vwCl [(h, .inr (7, oM r i j)), ((r 0), .inl (cI, 1800, .inl f0)), ((r 14), .inl (cI, 2, .inl f14)), ((r 30), .inl (cI, 2, .inl f30))] H → va_D A [(h, .inr (7, oM r i j)), ((r 0), .inl (cI, 1800, .inl f0)), ((r 14), .inl (cI, 2, .inl f14)), ((r 30), .inl (cI, 2, .inl f30))] → va_S A s.heap H locs → lv_has ls 4 [(0, .ref h), (1, .int x1), (2, .int j72_L2), (3, .int j72_L3)] → W p l e ({ frames := 2, cells := 0, slots := 0, locals := 61 }) s m args below meth c H locs 0 0 (MQ below (va_Qi (fun (r9 : Int32) (u9 : Unit) => (iR r9 0 1) ∧ ((r9 = 0) ∨ (((w2b f0 4) ≤ (f30 (i 13).toNatClampNeg)) ∧ ((w2b f0 6) ≤ 1023)))) (fun u => k_B (dC, dI) vwCl (tyy cI cJ cZ cM) A ((fun (u9 : Unit) => [(h, .inr (7, oM r i j)), ((r 0), .inl (cI, 1800, .inl f0)), ((r 14), .inl (cI, 2, .inl f14)), ((r 30), .inl (cI, 2, .inl f30))]) u)) A) args s 0 0 A) (F0 m 72 ls []) := by
              intro n_72
              induction n_72 with
              | zero => intro j72_L2 j72_L3 hj72_L2 hj72_L3 hm_72; exact absurd hm_72 (Nat.not_lt_zero _)
              | succ n_72 ih_72 =>
                intro j72_L2 j72_L3 hj72_L2 hj72_L3 hm_72 H locs ls hP hD hS hl
                refine lv_iload_n hx hb dX7_canBe_72 rfl (lv_at hl 3 rfl) ?_
                refine lv_iload_n hx hb dX7_canBe_73 rfl (lv_at hl 1 rfl) ?_
                refine lv_iconst (v := 1) hx hb dX7_canBe_74 (by decide +kernel) ?_
                refine lv_isub hx hb dX7_canBe_75 ?_
                refine lv_topi (fun y_75 ey_75 => ?_)
                have f_75_1 : iR y_75 8 8 := iR_sub ey_75 f_6_1 (iR_c (n := 1) (a := 1) (b := 1) (by decide +kernel) (by decide +kernel)) (by decide +kernel)
                refine lv_icmp_ge (tgt := 100) hx hb dX7_canBe_76 (by decide) (fun c_76 => ?_) (fun c_76 => ?_)
                · have c_76 : y_75 ≤ j72_L3 := c_76
                  have f_100_2 : iR j72_L3 8 8 := iR_leR c_76 f_75_1 hj72_L3 (by decide +kernel)
                  refine lv_aload_n hx hb dX7_canBe_100 rfl (lv_at hl 0 rfl) ?_
                  refine k_get (D := (dC, dI)) (ci := 7) (v := .ref (r 0)) (C := RX7) (T := TX7) (N := 92) hx hb hts hinX7 hown hK hP 0 rfl rfl 0 (by decide) w_3 rfl rfl dX7_canBe_101 ?_
                  refine lv_iload_n hx hb dX7_canBe_104 rfl (lv_at hl 1 rfl) ?_
                  refine lv_iconst (v := 1) hx hb dX7_canBe_105 (by decide +kernel) ?_
                  refine lv_isub hx hb dX7_canBe_106 ?_
                  refine lv_topi (fun y_106 ey_106 => ?_)
                  have f_106_3 : iR y_106 8 8 := iR_sub ey_106 f_6_1 (iR_c (n := 1) (a := 1) (b := 1) (by decide +kernel) (by decide +kernel)) (by decide +kernel)
                  refine va_iald hx hb hK hP 1 0 rfl rfl (iR_vp f_106_3 (by decide +kernel)) dX7_canBe_107 ?_
                  have f_107_4 : iR (f0 y_106.toNatClampNeg) 0 255 := hf0 _
                  refine lv_iload_n hx hb dX7_canBe_108 rfl (lv_at hl 2 rfl) ?_
                  refine lv_icmp_ne (tgt := 116) hx hb dX7_canBe_109 (by decide) (fun c_109 => ?_) (fun c_109 => ?_)
                  · have c_109 : ¬ (f0 y_106.toNatClampNeg) = j72_L2 := c_109
                    refine lv_iconst (v := 0) hx hb dX7_canBe_116 (by decide +kernel) ?_
                    exact k_ri B hP hD hS dX7_canBe_117 () [0, 1, 2, 3] rfl rfl rfl (Nat.le_of_ble_eq_true rfl) (Nat.le_of_ble_eq_true rfl) ⟨(show iR 0 0 1 from (iR_c (n := 0) (a := 0) (b := 1) (by decide +kernel) (by decide +kernel))), (show (0 = 0) ∨ (((w2b f0 4) ≤ (f30 (i 13).toNatClampNeg)) ∧ ((w2b f0 6) ≤ 1023)) from (Or.inl rfl))⟩
                  · have c_109 : (f0 y_106.toNatClampNeg) = j72_L2 := c_109
                    have f_112_5 : iR (f0 y_106.toNatClampNeg) 0 250 := iR_eqL c_109 f_107_4 hj72_L2 (by decide +kernel)
                    refine lv_iconst (v := 1) hx hb dX7_canBe_112 (by decide +kernel) ?_
                    refine lv_goto (tgt := 117) hx hb dX7_canBe_113 (by decide) ?_
                    exact k_ri B hP hD hS dX7_canBe_117 () [0, 1, 2, 3] rfl rfl rfl (Nat.le_of_ble_eq_true rfl) (Nat.le_of_ble_eq_true rfl) ⟨(show iR 1 0 1 from (iR_c (n := 1) (a := 0) (b := 1) (by decide +kernel) (by decide +kernel))), (show (1 = 0) ∨ (((w2b f0 4) ≤ (f30 (i 13).toNatClampNeg)) ∧ ((w2b f0 6) ≤ 1023)) from (Or.inr ⟨c_42, (i_lef f_67_9 (iR_c (n := 1023) (a := 1023) (b := 1023) (by decide +kernel) (by decide +kernel)) (by decide +kernel))⟩))⟩
                · have c_76 : j72_L3 < y_75 := i_nle c_76
                  have f_79_2 : iR j72_L3 0 7 := iR_ltL c_76 hj72_L3 f_75_1 (by decide +kernel)
                  refine lv_iconst (v := 5) hx hb dX7_canBe_79 (by decide +kernel) ?_
                  refine lv_iload_n hx hb dX7_canBe_80 rfl (lv_at hl 2 rfl) ?_
                  refine lv_imul hx hb dX7_canBe_81 ?_
                  refine lv_topi (fun y_81 ey_81 => ?_)
                  have f_81_3 : iR y_81 0 1250 := iR_mul ey_81 (iR_c (n := 5) (a := 5) (b := 5) (by decide +kernel) (by decide +kernel)) hj72_L2 (by decide +kernel)
                  refine lv_aload_n hx hb dX7_canBe_82 rfl (lv_at hl 0 rfl) ?_
                  refine k_get (D := (dC, dI)) (ci := 7) (v := .ref (r 0)) (C := RX7) (T := TX7) (N := 92) hx hb hts hinX7 hown hK hP 0 rfl rfl 0 (by decide) w_3 rfl rfl dX7_canBe_83 ?_
                  refine lv_iload_n hx hb dX7_canBe_86 rfl (lv_at hl 3 rfl) ?_
                  refine va_iald hx hb hK hP 1 0 rfl rfl (iR_vp f_79_2 (by decide +kernel)) dX7_canBe_87 ?_
                  have f_87_4 : iR (f0 j72_L3.toNatClampNeg) 0 255 := hf0 _
                  refine lv_iadd hx hb dX7_canBe_88 ?_
                  refine lv_topi (fun y_88 ey_88 => ?_)
                  have f_88_5 : iR y_88 0 1505 := iR_add ey_88 f_81_3 f_87_4 (by decide +kernel)
                  refine lv_sipush (v := 251) hx hb dX7_canBe_89 (by decide +kernel) ?_
                  refine lv_irem hx hb dX7_canBe_92 (i_nz (iR_c (n := 251) (a := 251) (b := 251) (by decide +kernel) (by decide +kernel)) (by decide +kernel)) ?_
                  refine lv_topi (fun y_92 ey_92 => ?_)
                  have f_92_6 : iR y_92 0 250 := iR_rem ey_92 f_88_5 (iR_c (n := 251) (a := 251) (b := 251) (by decide +kernel) (by decide +kernel)) (by decide +kernel)
                  refine lv_istore_n (lv' := [(2, .int y_92), (0, .ref h), (1, .int x1), (3, .int j72_L3)]) hx hb dX7_canBe_93 rfl hl (by decide) rfl (fun ls hl => ?_)
                  obtain ⟨y_94, ey_94⟩ : ∃ y : Int32, y = j72_L3 + 1 := ⟨_, rfl⟩
                  refine lv_iinc (v := y_94) (lv' := [(3, .int y_94), (2, .int y_92), (0, .ref h), (1, .int x1)]) hx hb dX7_canBe_94 hl (k := 3) rfl ey_94.symm (by decide) rfl (fun ls hl => ?_)
                  have f_94_7 : iR y_94 1 8 := iR_add ey_94 f_79_2 (iR_c (n := 1) (a := 1) (b := 1) (by decide +kernel) (by decide +kernel)) (by decide +kernel)
                  refine lv_goto (tgt := 72) hx hb dX7_canBe_97 (by decide) ?_
                  exact ih_72 y_92 y_94 f_92_6 (iR_w f_94_7 (by decide +kernel)) (m_up (B := 8) hm_72 ey_94 f_79_2 (by decide +kernel)) H locs ls hP hD hS (lv_sub hl [2, 3, 1, 0] rfl)
            refine lv_istore_n (lv' := [(3, .int 0), (2, .int 97), (0, .ref h), (1, .int x1)]) hx hb dX7_canBe_71 rfl hl (by decide) rfl (fun ls hl => ?_)
            exact J_72 _ 97 0 (iR_c (n := 97) (a := 0) (b := 250) (by decide +kernel) (by decide +kernel)) (iR_c (n := 0) (a := 0) (b := 8) (by decide +kernel) (by decide +kernel)) (Nat.lt_succ_self _) H locs ls (hP.sub [2, 3, 0, 1] rfl) (hD.sub [2, 3, 0, 1] (by decide +kernel) rfl) hS (lv_sub hl [2, 3, 1, 0] rfl)
          · have c_62 : y_61 ≤ (w2b f0 6) := i_nlt c_62
            have f_65_9 : iR (w2b f0 6) 1 65535 := iR_leR c_62 f_61_8 g_48_0 (by decide +kernel)
            exact J_65   H locs ls (hP.sub [2, 3, 0, 1] rfl) (hD.sub [2, 3, 0, 1] (by decide +kernel) rfl) hS (lv_sub hl [] rfl)
set_option maxHeartbeats 8000000 in
set_option maxRecDepth 100000 in
theorem s_X7_on_v0 (l : Launch) (dC : Nat → ClassId) (dI : Nat → Nat → Nat) (cI cJ cZ cM : ClassId) (h : Nat) (r : Nat → Nat) (i : Nat → Int32) (j : Nat → Int64) (f0 : Nat → Int32) (f14 : Nat → Int32) (f30 : Nat → Int32) (f48 : Nat → Int32) (f49 : Nat → Int32) (f50 : Nat → Int32) (f51 : Nat → Int32) (f52 : Nat → Int32) (f53 : Nat → Int32) (hI : mR i) (hf0 : aR f0 0 255) (hf14 : aR f14 0 10) (hf30 : aR f30 0 999) (hf49 : aR f49 0 1023) (hf50 : aR f50 0 999) (hf53 : aR f53 0 50) : k_Mi l yX7_on wsX7_on ({ frames := 3, cells := 0, slots := 0, locals := 84 }) (dC, dI) vwCl (tyy cI cJ cZ cM) [(h, .inr (7, oM r i j)), ((r 0), .inl (cI, 1800, .inl f0)), ((r 14), .inl (cI, 2, .inl f14)), ((r 30), .inl (cI, 2, .inl f30)), ((r 48), .inl (cI, 6, .inl f48)), ((r 49), .inl (cI, 22, .inl f49)), ((r 50), .inl (cI, 22, .inl f50)), ((r 51), .inl (cI, 22, .inl f51)), ((r 52), .inl (cI, 22, .inl f52)), ((r 53), .inl (cI, 22, .inl f53))] [.ref h] 0 0 (fun (u9 : SU) => [(h, .inr (7, oM r (upd (upd i 1 0) 59 (u9.1 0)) j)), ((r 0), .inl (cI, 1800, .inl f0)), ((r 14), .inl (cI, 2, .inl f14)), ((r 30), .inl (cI, 2, .inl f30)), ((r 48), .inl (cI, 6, .inl (u9.2.2.1 0))), ((r 49), .inl (cI, 22, .inl (u9.2.2.1 1))), ((r 50), .inl (cI, 22, .inl (u9.2.2.1 2))), ((r 51), .inl (cI, 22, .inl (u9.2.2.1 3))), ((r 52), .inl (cI, 22, .inl (u9.2.2.1 4))), ((r 53), .inl (cI, 22, .inl (u9.2.2.1 5)))]) (fun (r9 : Int32) (u9 : SU) => (iR r9 0 1) ∧ (iR (u9.1 0) 0 20) ∧ (aR (u9.2.2.1 1) 0 1023) ∧ (aR (u9.2.2.1 2) 0 999) ∧ (aR (u9.2.2.1 5) 0 50)) := by
  refine fun sz => k_enter (cc := cX7_on) (maxL := 2) (ret := some (.boolean)) (Qc := fun A => va_Qi (fun (r9 : Int32) (u9 : SU) => (iR r9 0 1) ∧ (iR (u9.1 0) 0 20) ∧ (aR (u9.2.2.1 1) 0 1023) ∧ (aR (u9.2.2.1 2) 0 999) ∧ (aR (u9.2.2.1 5) 0 50)) (fun u => k_B (dC, dI) vwCl (tyy cI cJ cZ cM) A ((fun (u9 : SU) => [(h, .inr (7, oM r (upd (upd i 1 0) 59 (u9.1 0)) j)), ((r 0), .inl (cI, 1800, .inl f0)), ((r 14), .inl (cI, 2, .inl f14)), ((r 30), .inl (cI, 2, .inl f30)), ((r 48), .inl (cI, 6, .inl (u9.2.2.1 0))), ((r 49), .inl (cI, 22, .inl (u9.2.2.1 1))), ((r 50), .inl (cI, 22, .inl (u9.2.2.1 2))), ((r 51), .inl (cI, 22, .inl (u9.2.2.1 3))), ((r 52), .inl (cI, 22, .inl (u9.2.2.1 4))), ((r 53), .inl (cI, 22, .inl (u9.2.2.1 5)))]) u)) A) sz (by decide +kernel) rfl (Nat.le_of_ble_eq_true rfl) (fun p e s m args below meth c A ls H locs B hP hD hS hl => ?_)
  obtain ⟨hx, hb, hml, hown, hts, hr, hlk, hnm, hK, hA, hN, hC⟩ := id B
  have hown : s.vm.findClass RX7 = some m.cls := hown
  have hl : lv_has ls 2 [(0, .ref h)] := hl
  have w_0 : (Cond.fieldLink RX7 13 "WishSeaModel" "taped" "I").before args s = true := hts _ (List.mem_of_getElem? (i := 1) rfl)
  have w_1 : (Cond.fieldLink RX7 171 "WishSeaModel" "dayOf" "[I").before args s = true := hts _ (List.mem_of_getElem? (i := 2) rfl)
  have w_2 : (Cond.fieldLink RX7 168 "WishSeaModel" "saidOf" "[I").before args s = true := hts _ (List.mem_of_getElem? (i := 3) rfl)
  have w_3 : (Cond.fieldLink RX7 165 "WishSeaModel" "seaOf" "[I").before args s = true := hts _ (List.mem_of_getElem? (i := 4) rfl)
  have w_4 : (Cond.fieldLink RX7 162 "WishSeaModel" "hadOf" "[I").before args s = true := hts _ (List.mem_of_getElem? (i := 5) rfl)
  have w_5 : (Cond.fieldLink RX7 174 "WishSeaModel" "keptMany" "[I").before args s = true := hts _ (List.mem_of_getElem? (i := 6) rfl)
  have w_6 : (Cond.fieldLink RX7 192 "WishSeaModel" "undos" "I").before args s = true := hts _ (List.mem_of_getElem? (i := 7) rfl)
  have hinX7 : ∀ w ∈ u_ws RX7 TX7 92, w ∈ wsX7_on := fun _ h => List.mem_cons_of_mem _ (List.mem_append_right _ h)
  refine lv_aload_n hx hb dX7_on_0 rfl (lv_at hl 0 rfl) ?_
  have f_1_1 : iR (i 1) 0 1600 := hI 1
  refine k_get (D := (dC, dI)) (ci := 7) (v := .int (i 1)) (C := RX7) (T := TX7) (N := 92) hx hb hts hinX7 hown hK hP 0 rfl rfl 1 (by decide) w_0 rfl rfl dX7_on_1 ?_
  refine lv_istore_n (lv' := [(1, .int (i 1)), (0, .ref h)]) hx hb dX7_on_4 rfl hl (by decide) rfl (fun ls hl => ?_)
  refine lv_aload_n hx hb dX7_on_5 rfl (lv_at hl 1 rfl) ?_
  refine lv_iconst (v := 0) hx hb dX7_on_6 (by decide +kernel) ?_
  refine k_put (D := (dC, dI)) (ci := 7) (v := .int 0) (C := RX7) (T := TX7) (N := 92) (ws' := [(h, .inr (7, oM r (upd i 1 0) j)), ((r 0), .inl (cI, 1800, .inl f0)), ((r 14), .inl (cI, 2, .inl f14)), ((r 30), .inl (cI, 2, .inl f30)), ((r 48), .inl (cI, 6, .inl f48)), ((r 49), .inl (cI, 22, .inl f49)), ((r 50), .inl (cI, 22, .inl f50)), ((r 51), .inl (cI, 22, .inl f51)), ((r 52), .inl (cI, 22, .inl f52)), ((r 53), .inl (cI, 22, .inl f53))]) hx hb hts hinX7 tyX7 tyX7_ok nmX7 hown hK hP hD hS 0 rfl rfl 1 (by decide) w_0 rfl rfl rfl rfl (Nat.le_of_ble_eq_true rfl) rfl dX7_on_7 (fun H locs hP hD hS => ?_)
  refine lv_aload_n hx hb dX7_on_10 rfl (lv_at hl 1 rfl) ?_
  refine lv_iload_n hx hb dX7_on_11 rfl (lv_at hl 0 rfl) ?_
  refine k_ci (wc := [(h, .inr (7, oM r (upd i 1 0) j)), ((r 0), .inl (cI, 1800, .inl f0)), ((r 14), .inl (cI, 2, .inl f14)), ((r 30), .inl (cI, 2, .inl f30))]) (wr := [((r 48), .inl (cI, 6, .inl f48)), ((r 49), .inl (cI, 22, .inl f49)), ((r 50), .inl (cI, 22, .inl f50)), ((r 51), .inl (cI, 22, .inl f51)), ((r 52), .inl (cI, 22, .inl f52)), ((r 53), .inl (cI, 22, .inl f53))]) (fun hPc hDc hFc => va_runV (As := [.int (i 1)]) (rest := []) ⟨hx, hb, hml, hown, hts⟩ (s_X7_canBe_v0 l dC dI cI cJ cZ cM h r (upd i 1 0) j (i 1) f0 f14 f30 (mR_upd 1 hI (show iR _ (loI 1) (hiI 1) from (iR_c (n := 0) (a := 0) (b := 1600) (by decide +kernel) (by decide +kernel)))) hf0 hf14 hf30 H.size) (cwV 1 hts gX7_on_X7_canBe rfl rfl rfl (by decide +kernel) ⟨(Nat.le_of_ble_eq_true rfl), (Nat.le_of_ble_eq_true rfl)⟩) (k_pV hPc hDc hK hN hC hS hFc hP (q0 := 0) (ci := 7) rfl rfl) rfl rfl hl.1 rfl (lv_room (Nat.le_of_ble_eq_true rfl)) dX7_on_12 ⟨(Nat.le_of_ble_eq_true rfl), (Nat.le_of_ble_eq_true rfl)⟩) hP hD hS hA [0, 1, 2, 3] [4, 5, 6, 7, 8, 9] rfl rfl rfl rfl (by decide) (fun _ => rfl) 0 0 rfl rfl (fun r_12 u_12 H locs hw hP hD hS => ?_)
  obtain ⟨g_12_0, g_12_1⟩ := hw
  have hP : va_P (dC, dI) vwCl [((r 48), .inl (cI, 6, .inl f48)), ((r 49), .inl (cI, 22, .inl f49)), ((r 50), .inl (cI, 22, .inl f50)), ((r 51), .inl (cI, 22, .inl f51)), ((r 52), .inl (cI, 22, .inl f52)), ((r 53), .inl (cI, 22, .inl f53)), (h, .inr (7, oM r (upd i 1 0) j)), ((r 0), .inl (cI, 1800, .inl f0)), ((r 14), .inl (cI, 2, .inl f14)), ((r 30), .inl (cI, 2, .inl f30))] H := hP
  have hD : va_D A [((r 48), .inl (cI, 6, .inl f48)), ((r 49), .inl (cI, 22, .inl f49)), ((r 50), .inl (cI, 22, .inl f50)), ((r 51), .inl (cI, 22, .inl f51)), ((r 52), .inl (cI, 22, .inl f52)), ((r 53), .inl (cI, 22, .inl f53)), (h, .inr (7, oM r (upd i 1 0) j)), ((r 0), .inl (cI, 1800, .inl f0)), ((r 14), .inl (cI, 2, .inl f14)), ((r 30), .inl (cI, 2, .inl f30))] := hD
  have g_12_1 : (r_12 = 0) ∨ (((w2b f0 4) ≤ (f30 (i 13).toNatClampNeg)) ∧ ((w2b f0 6) ≤ 1023)) := g_12_1
  refine lv_if_ne (tgt := 32) hx hb dX7_on_15 (by decide) (fun c_15 => ?_) (fun c_15 => ?_)
  · have c_15 : ¬ r_12 = 0 := c_15
    have f_32_2 : iR r_12 1 1 := iR_neL c_15 g_12_0 (iR_c (n := 0) (a := 0) (b := 0) (by decide +kernel) (by decide +kernel)) (by decide +kernel)
    obtain ⟨d_15_1_0, d_15_1_1⟩ := g_12_1.resolve_left c_15
    have f_32_3 : iR (w2b f0 4) (-2147483648) 999 := iR_leL d_15_1_0 (iR_top _) (show iR (f30 (i 13).toNatClampNeg) 0 999 from hf30 _) (by decide +kernel)
    have f_32_4 : iR (w2b f0 6) (-2147483648) 1023 := iR_leL d_15_1_1 (iR_top _) (iR_c (n := 1023) (a := 1023) (b := 1023) (by decide +kernel) (by decide +kernel)) (by decide +kernel)
    refine lv_aload_n hx hb dX7_on_32 rfl (lv_at hl 1 rfl) ?_
    refine k_get (D := (dC, dI)) (ci := 7) (v := .ref (r 52)) (C := RX7) (T := TX7) (N := 92) hx hb hts hinX7 hown hK hP 6 rfl rfl 52 (by decide) w_1 rfl rfl dX7_on_33 ?_
    refine lv_iconst (v := 0) hx hb dX7_on_36 (by decide +kernel) ?_
    refine lv_aload_n hx hb dX7_on_37 rfl (lv_at hl 1 rfl) ?_
    refine lv_iconst (v := 0) hx hb dX7_on_38 (by decide +kernel) ?_
    refine k_ci (wc := [(h, .inr (7, oM r (upd i 1 0) j)), ((r 0), .inl (cI, 1800, .inl f0))]) (wr := [((r 48), .inl (cI, 6, .inl f48)), ((r 49), .inl (cI, 22, .inl f49)), ((r 50), .inl (cI, 22, .inl f50)), ((r 51), .inl (cI, 22, .inl f51)), ((r 52), .inl (cI, 22, .inl f52)), ((r 53), .inl (cI, 22, .inl f53)), ((r 14), .inl (cI, 2, .inl f14)), ((r 30), .inl (cI, 2, .inl f30))]) (fun hPc hDc hFc => va_runV (As := [.int 0]) (rest := [.int 0, .ref (r 52)]) ⟨hx, hb, hml, hown, hts⟩ (s_X7_twoBytes_v0 l dC dI cI cJ cZ cM h r (upd i 1 0) j f0 (mR_upd 1 hI (show iR _ (loI 1) (hiI 1) from (iR_c (n := 0) (a := 0) (b := 1600) (by decide +kernel) (by decide +kernel)))) hf0 H.size) (cwV 1 hts gX7_on_X7_twoBytes rfl rfl rfl (by decide +kernel) ⟨(Nat.le_of_ble_eq_true rfl), (Nat.le_of_ble_eq_true rfl)⟩) (k_pV hPc hDc hK hN hC hS hFc hP (q0 := 6) (ci := 7) rfl rfl) rfl rfl hl.1 rfl (lv_room (Nat.le_of_ble_eq_true rfl)) dX7_on_39 ⟨(Nat.le_of_ble_eq_true rfl), (Nat.le_of_ble_eq_true rfl)⟩) hP hD hS hA [6, 7] [0, 1, 2, 3, 4, 5, 8, 9] rfl rfl rfl rfl (by decide) (fun _ => rfl) 0 0 rfl rfl (fun r_39 u_39 H locs hw hP hD hS => ?_)
    obtain ⟨g_39_0, g_39_1⟩ := hw
    obtain rfl : r_39 = (w2b f0 0) := g_39_1
    have hP : va_P (dC, dI) vwCl [((r 48), .inl (cI, 6, .inl f48)), ((r 49), .inl (cI, 22, .inl f49)), ((r 50), .inl (cI, 22, .inl f50)), ((r 51), .inl (cI, 22, .inl f51)), ((r 52), .inl (cI, 22, .inl f52)), ((r 53), .inl (cI, 22, .inl f53)), ((r 14), .inl (cI, 2, .inl f14)), ((r 30), .inl (cI, 2, .inl f30)), (h, .inr (7, oM r (upd i 1 0) j)), ((r 0), .inl (cI, 1800, .inl f0))] H := hP
    have hD : va_D A [((r 48), .inl (cI, 6, .inl f48)), ((r 49), .inl (cI, 22, .inl f49)), ((r 50), .inl (cI, 22, .inl f50)), ((r 51), .inl (cI, 22, .inl f51)), ((r 52), .inl (cI, 22, .inl f52)), ((r 53), .inl (cI, 22, .inl f53)), ((r 14), .inl (cI, 2, .inl f14)), ((r 30), .inl (cI, 2, .inl f30)), (h, .inr (7, oM r (upd i 1 0) j)), ((r 0), .inl (cI, 1800, .inl f0))] := hD
    refine k_iast (g := (upd f52 0 (w2b f0 0))) (ws' := [((r 48), .inl (cI, 6, .inl f48)), ((r 49), .inl (cI, 22, .inl f49)), ((r 50), .inl (cI, 22, .inl f50)), ((r 51), .inl (cI, 22, .inl f51)), ((r 52), .inl (cI, 22, .inl (upd f52 0 (w2b f0 0)))), ((r 53), .inl (cI, 22, .inl f53)), ((r 14), .inl (cI, 2, .inl f14)), ((r 30), .inl (cI, 2, .inl f30)), (h, .inr (7, oM r (upd i 1 0) j)), ((r 0), .inl (cI, 1800, .inl f0))]) hx hb hK hP hD hS 4 0 0 rfl rfl rfl (Nat.le_of_ble_eq_true rfl) (Nat.le_of_ble_eq_true rfl) rfl rfl dX7_on_42 (fun H locs hP hD hS => ?_)
    refine lv_aload_n hx hb dX7_on_43 rfl (lv_at hl 1 rfl) ?_
    refine k_get (D := (dC, dI)) (ci := 7) (v := .ref (r 51)) (C := RX7) (T := TX7) (N := 92) hx hb hts hinX7 hown hK hP 8 rfl rfl 51 (by decide) w_2 rfl rfl dX7_on_44 ?_
    refine lv_iconst (v := 0) hx hb dX7_on_47 (by decide +kernel) ?_
    refine lv_aload_n hx hb dX7_on_48 rfl (lv_at hl 1 rfl) ?_
    refine lv_iconst (v := 2) hx hb dX7_on_49 (by decide +kernel) ?_
    refine k_ci (wc := [(h, .inr (7, oM r (upd i 1 0) j)), ((r 0), .inl (cI, 1800, .inl f0))]) (wr := [((r 48), .inl (cI, 6, .inl f48)), ((r 49), .inl (cI, 22, .inl f49)), ((r 50), .inl (cI, 22, .inl f50)), ((r 51), .inl (cI, 22, .inl f51)), ((r 52), .inl (cI, 22, .inl (upd f52 0 (w2b f0 0)))), ((r 53), .inl (cI, 22, .inl f53)), ((r 14), .inl (cI, 2, .inl f14)), ((r 30), .inl (cI, 2, .inl f30))]) (fun hPc hDc hFc => va_runV (As := [.int 2]) (rest := [.int 0, .ref (r 51)]) ⟨hx, hb, hml, hown, hts⟩ (s_X7_twoBytes_v1 l dC dI cI cJ cZ cM h r (upd i 1 0) j f0 (mR_upd 1 hI (show iR _ (loI 1) (hiI 1) from (iR_c (n := 0) (a := 0) (b := 1600) (by decide +kernel) (by decide +kernel)))) hf0 H.size) (cwV 1 hts gX7_on_X7_twoBytes rfl rfl rfl (by decide +kernel) ⟨(Nat.le_of_ble_eq_true rfl), (Nat.le_of_ble_eq_true rfl)⟩) (k_pV hPc hDc hK hN hC hS hFc hP (q0 := 8) (ci := 7) rfl rfl) rfl rfl hl.1 rfl (lv_room (Nat.le_of_ble_eq_true rfl)) dX7_on_50 ⟨(Nat.le_of_ble_eq_true rfl), (Nat.le_of_ble_eq_true rfl)⟩) hP hD hS hA [8, 9] [0, 1, 2, 3, 4, 5, 6, 7] rfl rfl rfl rfl (by decide) (fun _ => rfl) 0 0 rfl rfl (fun r_50 u_50 H locs hw hP hD hS => ?_)
    obtain ⟨g_50_0, g_50_1⟩ := hw
    obtain rfl : r_50 = (w2b f0 2) := g_50_1
    have hP : va_P (dC, dI) vwCl [((r 48), .inl (cI, 6, .inl f48)), ((r 49), .inl (cI, 22, .inl f49)), ((r 50), .inl (cI, 22, .inl f50)), ((r 51), .inl (cI, 22, .inl f51)), ((r 52), .inl (cI, 22, .inl (upd f52 0 (w2b f0 0)))), ((r 53), .inl (cI, 22, .inl f53)), ((r 14), .inl (cI, 2, .inl f14)), ((r 30), .inl (cI, 2, .inl f30)), (h, .inr (7, oM r (upd i 1 0) j)), ((r 0), .inl (cI, 1800, .inl f0))] H := hP
    have hD : va_D A [((r 48), .inl (cI, 6, .inl f48)), ((r 49), .inl (cI, 22, .inl f49)), ((r 50), .inl (cI, 22, .inl f50)), ((r 51), .inl (cI, 22, .inl f51)), ((r 52), .inl (cI, 22, .inl (upd f52 0 (w2b f0 0)))), ((r 53), .inl (cI, 22, .inl f53)), ((r 14), .inl (cI, 2, .inl f14)), ((r 30), .inl (cI, 2, .inl f30)), (h, .inr (7, oM r (upd i 1 0) j)), ((r 0), .inl (cI, 1800, .inl f0))] := hD
    refine k_iast (g := (upd f51 0 (w2b f0 2))) (ws' := [((r 48), .inl (cI, 6, .inl f48)), ((r 49), .inl (cI, 22, .inl f49)), ((r 50), .inl (cI, 22, .inl f50)), ((r 51), .inl (cI, 22, .inl (upd f51 0 (w2b f0 2)))), ((r 52), .inl (cI, 22, .inl (upd f52 0 (w2b f0 0)))), ((r 53), .inl (cI, 22, .inl f53)), ((r 14), .inl (cI, 2, .inl f14)), ((r 30), .inl (cI, 2, .inl f30)), (h, .inr (7, oM r (upd i 1 0) j)), ((r 0), .inl (cI, 1800, .inl f0))]) hx hb hK hP hD hS 3 0 0 rfl rfl rfl (Nat.le_of_ble_eq_true rfl) (Nat.le_of_ble_eq_true rfl) rfl rfl dX7_on_53 (fun H locs hP hD hS => ?_)
    refine lv_aload_n hx hb dX7_on_54 rfl (lv_at hl 1 rfl) ?_
    refine k_get (D := (dC, dI)) (ci := 7) (v := .ref (r 50)) (C := RX7) (T := TX7) (N := 92) hx hb hts hinX7 hown hK hP 8 rfl rfl 50 (by decide) w_3 rfl rfl dX7_on_55 ?_
    refine lv_iconst (v := 0) hx hb dX7_on_58 (by decide +kernel) ?_
    refine lv_aload_n hx hb dX7_on_59 rfl (lv_at hl 1 rfl) ?_
    refine lv_iconst (v := 4) hx hb dX7_on_60 (by decide +kernel) ?_
    refine k_ci (wc := [(h, .inr (7, oM r (upd i 1 0) j)), ((r 0), .inl (cI, 1800, .inl f0))]) (wr := [((r 48), .inl (cI, 6, .inl f48)), ((r 49), .inl (cI, 22, .inl f49)), ((r 50), .inl (cI, 22, .inl f50)), ((r 51), .inl (cI, 22, .inl (upd f51 0 (w2b f0 2)))), ((r 52), .inl (cI, 22, .inl (upd f52 0 (w2b f0 0)))), ((r 53), .inl (cI, 22, .inl f53)), ((r 14), .inl (cI, 2, .inl f14)), ((r 30), .inl (cI, 2, .inl f30))]) (fun hPc hDc hFc => va_runV (As := [.int 4]) (rest := [.int 0, .ref (r 50)]) ⟨hx, hb, hml, hown, hts⟩ (s_X7_twoBytes_v2 l dC dI cI cJ cZ cM h r (upd i 1 0) j f0 (mR_upd 1 hI (show iR _ (loI 1) (hiI 1) from (iR_c (n := 0) (a := 0) (b := 1600) (by decide +kernel) (by decide +kernel)))) hf0 H.size) (cwV 1 hts gX7_on_X7_twoBytes rfl rfl rfl (by decide +kernel) ⟨(Nat.le_of_ble_eq_true rfl), (Nat.le_of_ble_eq_true rfl)⟩) (k_pV hPc hDc hK hN hC hS hFc hP (q0 := 8) (ci := 7) rfl rfl) rfl rfl hl.1 rfl (lv_room (Nat.le_of_ble_eq_true rfl)) dX7_on_61 ⟨(Nat.le_of_ble_eq_true rfl), (Nat.le_of_ble_eq_true rfl)⟩) hP hD hS hA [8, 9] [0, 1, 2, 3, 4, 5, 6, 7] rfl rfl rfl rfl (by decide) (fun _ => rfl) 0 0 rfl rfl (fun r_61 u_61 H locs hw hP hD hS => ?_)
    obtain ⟨g_61_0, g_61_1⟩ := hw
    obtain rfl : r_61 = (w2b f0 4) := g_61_1
    have hP : va_P (dC, dI) vwCl [((r 48), .inl (cI, 6, .inl f48)), ((r 49), .inl (cI, 22, .inl f49)), ((r 50), .inl (cI, 22, .inl f50)), ((r 51), .inl (cI, 22, .inl (upd f51 0 (w2b f0 2)))), ((r 52), .inl (cI, 22, .inl (upd f52 0 (w2b f0 0)))), ((r 53), .inl (cI, 22, .inl f53)), ((r 14), .inl (cI, 2, .inl f14)), ((r 30), .inl (cI, 2, .inl f30)), (h, .inr (7, oM r (upd i 1 0) j)), ((r 0), .inl (cI, 1800, .inl f0))] H := hP
    have hD : va_D A [((r 48), .inl (cI, 6, .inl f48)), ((r 49), .inl (cI, 22, .inl f49)), ((r 50), .inl (cI, 22, .inl f50)), ((r 51), .inl (cI, 22, .inl (upd f51 0 (w2b f0 2)))), ((r 52), .inl (cI, 22, .inl (upd f52 0 (w2b f0 0)))), ((r 53), .inl (cI, 22, .inl f53)), ((r 14), .inl (cI, 2, .inl f14)), ((r 30), .inl (cI, 2, .inl f30)), (h, .inr (7, oM r (upd i 1 0) j)), ((r 0), .inl (cI, 1800, .inl f0))] := hD
    have f_61_5 : iR (w2b f0 4) 0 999 := iR_both g_61_0 f_32_3 (by decide +kernel)
    refine k_iast (g := (upd f50 0 (w2b f0 4))) (ws' := [((r 48), .inl (cI, 6, .inl f48)), ((r 49), .inl (cI, 22, .inl f49)), ((r 50), .inl (cI, 22, .inl (upd f50 0 (w2b f0 4)))), ((r 51), .inl (cI, 22, .inl (upd f51 0 (w2b f0 2)))), ((r 52), .inl (cI, 22, .inl (upd f52 0 (w2b f0 0)))), ((r 53), .inl (cI, 22, .inl f53)), ((r 14), .inl (cI, 2, .inl f14)), ((r 30), .inl (cI, 2, .inl f30)), (h, .inr (7, oM r (upd i 1 0) j)), ((r 0), .inl (cI, 1800, .inl f0))]) hx hb hK hP hD hS 2 0 0 rfl rfl rfl (Nat.le_of_ble_eq_true rfl) (Nat.le_of_ble_eq_true rfl) rfl rfl dX7_on_64 (fun H locs hP hD hS => ?_)
    refine lv_aload_n hx hb dX7_on_65 rfl (lv_at hl 1 rfl) ?_
    refine k_get (D := (dC, dI)) (ci := 7) (v := .ref (r 49)) (C := RX7) (T := TX7) (N := 92) hx hb hts hinX7 hown hK hP 8 rfl rfl 49 (by decide) w_4 rfl rfl dX7_on_66 ?_
    refine lv_iconst (v := 0) hx hb dX7_on_69 (by decide +kernel) ?_
    refine lv_aload_n hx hb dX7_on_70 rfl (lv_at hl 1 rfl) ?_
    refine lv_bipush (v := 6) hx hb dX7_on_71 (by decide +kernel) ?_
    refine k_ci (wc := [(h, .inr (7, oM r (upd i 1 0) j)), ((r 0), .inl (cI, 1800, .inl f0))]) (wr := [((r 48), .inl (cI, 6, .inl f48)), ((r 49), .inl (cI, 22, .inl f49)), ((r 50), .inl (cI, 22, .inl (upd f50 0 (w2b f0 4)))), ((r 51), .inl (cI, 22, .inl (upd f51 0 (w2b f0 2)))), ((r 52), .inl (cI, 22, .inl (upd f52 0 (w2b f0 0)))), ((r 53), .inl (cI, 22, .inl f53)), ((r 14), .inl (cI, 2, .inl f14)), ((r 30), .inl (cI, 2, .inl f30))]) (fun hPc hDc hFc => va_runV (As := [.int 6]) (rest := [.int 0, .ref (r 49)]) ⟨hx, hb, hml, hown, hts⟩ (s_X7_twoBytes_v3 l dC dI cI cJ cZ cM h r (upd i 1 0) j f0 (mR_upd 1 hI (show iR _ (loI 1) (hiI 1) from (iR_c (n := 0) (a := 0) (b := 1600) (by decide +kernel) (by decide +kernel)))) hf0 H.size) (cwV 1 hts gX7_on_X7_twoBytes rfl rfl rfl (by decide +kernel) ⟨(Nat.le_of_ble_eq_true rfl), (Nat.le_of_ble_eq_true rfl)⟩) (k_pV hPc hDc hK hN hC hS hFc hP (q0 := 8) (ci := 7) rfl rfl) rfl rfl hl.1 rfl (lv_room (Nat.le_of_ble_eq_true rfl)) dX7_on_73 ⟨(Nat.le_of_ble_eq_true rfl), (Nat.le_of_ble_eq_true rfl)⟩) hP hD hS hA [8, 9] [0, 1, 2, 3, 4, 5, 6, 7] rfl rfl rfl rfl (by decide) (fun _ => rfl) 0 0 rfl rfl (fun r_73 u_73 H locs hw hP hD hS => ?_)
    obtain ⟨g_73_0, g_73_1⟩ := hw
    obtain rfl : r_73 = (w2b f0 6) := g_73_1
    have hP : va_P (dC, dI) vwCl [((r 48), .inl (cI, 6, .inl f48)), ((r 49), .inl (cI, 22, .inl f49)), ((r 50), .inl (cI, 22, .inl (upd f50 0 (w2b f0 4)))), ((r 51), .inl (cI, 22, .inl (upd f51 0 (w2b f0 2)))), ((r 52), .inl (cI, 22, .inl (upd f52 0 (w2b f0 0)))), ((r 53), .inl (cI, 22, .inl f53)), ((r 14), .inl (cI, 2, .inl f14)), ((r 30), .inl (cI, 2, .inl f30)), (h, .inr (7, oM r (upd i 1 0) j)), ((r 0), .inl (cI, 1800, .inl f0))] H := hP
    have hD : va_D A [((r 48), .inl (cI, 6, .inl f48)), ((r 49), .inl (cI, 22, .inl f49)), ((r 50), .inl (cI, 22, .inl (upd f50 0 (w2b f0 4)))), ((r 51), .inl (cI, 22, .inl (upd f51 0 (w2b f0 2)))), ((r 52), .inl (cI, 22, .inl (upd f52 0 (w2b f0 0)))), ((r 53), .inl (cI, 22, .inl f53)), ((r 14), .inl (cI, 2, .inl f14)), ((r 30), .inl (cI, 2, .inl f30)), (h, .inr (7, oM r (upd i 1 0) j)), ((r 0), .inl (cI, 1800, .inl f0))] := hD
    have f_73_6 : iR (w2b f0 6) 0 1023 := iR_both g_73_0 f_32_4 (by decide +kernel)
    refine k_iast (g := (upd f49 0 (w2b f0 6))) (ws' := [((r 48), .inl (cI, 6, .inl f48)), ((r 49), .inl (cI, 22, .inl (upd f49 0 (w2b f0 6)))), ((r 50), .inl (cI, 22, .inl (upd f50 0 (w2b f0 4)))), ((r 51), .inl (cI, 22, .inl (upd f51 0 (w2b f0 2)))), ((r 52), .inl (cI, 22, .inl (upd f52 0 (w2b f0 0)))), ((r 53), .inl (cI, 22, .inl f53)), ((r 14), .inl (cI, 2, .inl f14)), ((r 30), .inl (cI, 2, .inl f30)), (h, .inr (7, oM r (upd i 1 0) j)), ((r 0), .inl (cI, 1800, .inl f0))]) hx hb hK hP hD hS 1 0 0 rfl rfl rfl (Nat.le_of_ble_eq_true rfl) (Nat.le_of_ble_eq_true rfl) rfl rfl dX7_on_76 (fun H locs hP hD hS => ?_)
    refine lv_aload_n hx hb dX7_on_77 rfl (lv_at hl 1 rfl) ?_
    refine k_get (D := (dC, dI)) (ci := 7) (v := .ref (r 53)) (C := RX7) (T := TX7) (N := 92) hx hb hts hinX7 hown hK hP 8 rfl rfl 53 (by decide) w_5 rfl rfl dX7_on_78 ?_
    refine lv_iconst (v := 0) hx hb dX7_on_81 (by decide +kernel) ?_
    refine lv_iconst (v := 0) hx hb dX7_on_82 (by decide +kernel) ?_
    refine k_iast (g := (upd f53 0 0)) (ws' := [((r 48), .inl (cI, 6, .inl f48)), ((r 49), .inl (cI, 22, .inl (upd f49 0 (w2b f0 6)))), ((r 50), .inl (cI, 22, .inl (upd f50 0 (w2b f0 4)))), ((r 51), .inl (cI, 22, .inl (upd f51 0 (w2b f0 2)))), ((r 52), .inl (cI, 22, .inl (upd f52 0 (w2b f0 0)))), ((r 53), .inl (cI, 22, .inl (upd f53 0 0))), ((r 14), .inl (cI, 2, .inl f14)), ((r 30), .inl (cI, 2, .inl f30)), (h, .inr (7, oM r (upd i 1 0) j)), ((r 0), .inl (cI, 1800, .inl f0))]) hx hb hK hP hD hS 5 0 0 rfl rfl rfl (Nat.le_of_ble_eq_true rfl) (Nat.le_of_ble_eq_true rfl) rfl rfl dX7_on_83 (fun H locs hP hD hS => ?_)
    refine lv_aload_n hx hb dX7_on_84 rfl (lv_at hl 1 rfl) ?_
    refine lv_iconst (v := 0) hx hb dX7_on_85 (by decide +kernel) ?_
    refine k_put (D := (dC, dI)) (ci := 7) (v := .int 0) (C := RX7) (T := TX7) (N := 92) (ws' := [((r 48), .inl (cI, 6, .inl f48)), ((r 49), .inl (cI, 22, .inl (upd f49 0 (w2b f0 6)))), ((r 50), .inl (cI, 22, .inl (upd f50 0 (w2b f0 4)))), ((r 51), .inl (cI, 22, .inl (upd f51 0 (w2b f0 2)))), ((r 52), .inl (cI, 22, .inl (upd f52 0 (w2b f0 0)))), ((r 53), .inl (cI, 22, .inl (upd f53 0 0))), ((r 14), .inl (cI, 2, .inl f14)), ((r 30), .inl (cI, 2, .inl f30)), (h, .inr (7, oM r (upd (upd i 1 0) 59 0) j)), ((r 0), .inl (cI, 1800, .inl f0))]) hx hb hts hinX7 tyX7 tyX7_ok nmX7 hown hK hP hD hS 8 rfl rfl 59 (by decide) w_6 rfl rfl rfl rfl (Nat.le_of_ble_eq_true rfl) rfl dX7_on_86 (fun H locs hP hD hS => ?_)
    refine lv_iconst (v := 1) hx hb dX7_on_89 (by decide +kernel) ?_
    exact k_ri B hP hD hS dX7_on_90 ((fun k9 => match k9 with | 0 => 0 | _ => 0), (fun _ => 0), (fun k9 => match k9 with | 0 => f48 | 1 => (upd f49 0 (w2b f0 6)) | 2 => (upd f50 0 (w2b f0 4)) | 3 => (upd f51 0 (w2b f0 2)) | 4 => (upd f52 0 (w2b f0 0)) | 5 => (upd f53 0 0) | _ => (fun _ => 0)), (fun _ => (fun _ => 0)), (fun _ => 0)) [8, 9, 6, 7, 0, 1, 2, 3, 4, 5] rfl rfl rfl (Nat.le_of_ble_eq_true rfl) (Nat.le_of_ble_eq_true rfl) ⟨(show iR 1 0 1 from (iR_c (n := 1) (a := 0) (b := 1) (by decide +kernel) (by decide +kernel))), (show iR 0 0 20 from (iR_c (n := 0) (a := 0) (b := 20) (by decide +kernel) (by decide +kernel))), (show aR (upd f49 0 (w2b f0 6)) 0 1023 from (aR_upd _ hf49 f_73_6)), (show aR (upd f50 0 (w2b f0 4)) 0 999 from (aR_upd _ hf50 f_61_5)), (show aR (upd f53 0 0) 0 50 from (aR_upd _ hf53 (iR_c (n := 0) (a := 0) (b := 50) (by decide +kernel) (by decide +kernel))))⟩
  · have c_15 : r_12 = 0 := c_15
    have f_18_2 : iR r_12 0 0 := iR_eqL c_15 g_12_0 (iR_c (n := 0) (a := 0) (b := 0) (by decide +kernel) (by decide +kernel)) (by decide +kernel)
    refine lv_aload_n hx hb dX7_on_18 rfl (lv_at hl 1 rfl) ?_
    refine lv_iconst (v := 5) hx hb dX7_on_19 (by decide +kernel) ?_
    refine k_ci (wc := [(h, .inr (7, oM r (upd i 1 0) j)), ((r 48), .inl (cI, 6, .inl f48))]) (wr := [((r 49), .inl (cI, 22, .inl f49)), ((r 50), .inl (cI, 22, .inl f50)), ((r 51), .inl (cI, 22, .inl f51)), ((r 52), .inl (cI, 22, .inl f52)), ((r 53), .inl (cI, 22, .inl f53)), ((r 0), .inl (cI, 1800, .inl f0)), ((r 14), .inl (cI, 2, .inl f14)), ((r 30), .inl (cI, 2, .inl f30))]) (fun hPc hDc hFc => va_runV (As := [.int 5]) (rest := []) ⟨hx, hb, hml, hown, hts⟩ (s_X7_refuses_v0 l dC dI cI cJ cZ cM h r (upd i 1 0) j 5 f48 (iR_c (n := 5) (a := 0) (b := 5) (by decide +kernel) (by decide +kernel)) (mR_upd 1 hI (show iR _ (loI 1) (hiI 1) from (iR_c (n := 0) (a := 0) (b := 1600) (by decide +kernel) (by decide +kernel)))) H.size) (cwV 1 hts gX7_on_X7_refuses rfl rfl rfl (by decide +kernel) ⟨(Nat.le_of_ble_eq_true rfl), (Nat.le_of_ble_eq_true rfl)⟩) (k_pV hPc hDc hK hN hC hS hFc hP (q0 := 6) (ci := 7) rfl rfl) rfl rfl hl.1 rfl (lv_room (Nat.le_of_ble_eq_true rfl)) dX7_on_20 ⟨(Nat.le_of_ble_eq_true rfl), (Nat.le_of_ble_eq_true rfl)⟩) hP hD hS hA [6, 0] [1, 2, 3, 4, 5, 7, 8, 9] rfl rfl rfl rfl (by decide) (fun _ => rfl) 0 0 rfl rfl (fun r_20 u_20 H locs hw hP hD hS => ?_)
    have g_20_0 := hw
    obtain rfl : r_20 = (-1) := g_20_0
    have hP : va_P (dC, dI) vwCl [((r 49), .inl (cI, 22, .inl f49)), ((r 50), .inl (cI, 22, .inl f50)), ((r 51), .inl (cI, 22, .inl f51)), ((r 52), .inl (cI, 22, .inl f52)), ((r 53), .inl (cI, 22, .inl f53)), ((r 0), .inl (cI, 1800, .inl f0)), ((r 14), .inl (cI, 2, .inl f14)), ((r 30), .inl (cI, 2, .inl f30)), (h, .inr (7, oM r (upd i 1 0) j)), ((r 48), .inl (cI, 6, .inl (u_20.2.2.1 0)))] H := hP
    have hD : va_D A [((r 49), .inl (cI, 22, .inl f49)), ((r 50), .inl (cI, 22, .inl f50)), ((r 51), .inl (cI, 22, .inl f51)), ((r 52), .inl (cI, 22, .inl f52)), ((r 53), .inl (cI, 22, .inl f53)), ((r 0), .inl (cI, 1800, .inl f0)), ((r 14), .inl (cI, 2, .inl f14)), ((r 30), .inl (cI, 2, .inl f30)), (h, .inr (7, oM r (upd i 1 0) j)), ((r 48), .inl (cI, 6, .inl (u_20.2.2.1 0)))] := hD
    refine lv_if_lt (tgt := 30) hx hb dX7_on_23 (by decide) (fun _ => ?_) (fun q9 => absurd q9 (by decide +kernel))
    refine lv_iconst (v := 0) hx hb dX7_on_30 (by decide +kernel) ?_
    exact k_ri B hP hD hS dX7_on_31 ((fun k9 => match k9 with | 0 => (i 59) | _ => 0), (fun _ => 0), (fun k9 => match k9 with | 0 => (u_20.2.2.1 0) | 1 => f49 | 2 => f50 | 3 => f51 | 4 => f52 | 5 => f53 | _ => (fun _ => 0)), (fun _ => (fun _ => 0)), (fun _ => 0)) [8, 5, 6, 7, 9, 0, 1, 2, 3, 4] rfl rfl rfl (Nat.le_of_ble_eq_true rfl) (Nat.le_of_ble_eq_true rfl) ⟨(show iR 0 0 1 from (iR_c (n := 0) (a := 0) (b := 1) (by decide +kernel) (by decide +kernel))), (show iR (i 59) 0 20 from (hI 59)), (show aR f49 0 1023 from hf49), (show aR f50 0 999 from hf50), (show aR f53 0 50 from hf53)⟩
set_option maxHeartbeats 8000000 in
set_option maxRecDepth 100000 in
theorem s_X7_status_v0 (l : Launch) (dC : Nat → ClassId) (dI : Nat → Nat → Nat) (cI cJ cZ cM : ClassId) (h : Nat) (r : Nat → Nat) (i : Nat → Int32) (j : Nat → Int64) (x1 : Int32) (f48 : Nat → Int32) (hI : mR i) : k_Mi l yX7_status wsX7_status ({ frames := 2, cells := 0, slots := 0, locals := 62 }) (dC, dI) vwCl (tyy cI cJ cZ cM) [(h, .inr (7, oM r i j)), ((r 48), .inl (cI, 6, .inl f48))] [.ref h, .int x1] 0 0 (fun (u9 : Unit) => [(h, .inr (7, oM r i j)), ((r 48), .inl (cI, 6, .inl f48))]) (fun (r9 : Int32) (u9 : Unit) => True) := by
  refine fun sz => k_enter (cc := cX7_status) (maxL := 2) (ret := some (.int)) (Qc := fun A => va_Qi (fun (r9 : Int32) (u9 : Unit) => True) (fun u => k_B (dC, dI) vwCl (tyy cI cJ cZ cM) A ((fun (u9 : Unit) => [(h, .inr (7, oM r i j)), ((r 48), .inl (cI, 6, .inl f48))]) u)) A) sz (by decide +kernel) rfl (Nat.le_of_ble_eq_true rfl) (fun p e s m args below meth c A ls H locs B hP hD hS hl => ?_)
  obtain ⟨hx, hb, hml, hown, hts, hr, hlk, hnm, hK, hA, hN, hC⟩ := id B
  have hown : s.vm.findClass RX7 = some m.cls := hown
  have hl : lv_has ls 2 [(0, .ref h), (1, .int x1)] := hl
  have w_0 : (Cond.fieldLink RX7 159 "WishSeaModel" "refused" "[I").before args s = true := hts _ (List.mem_of_getElem? (i := 1) rfl)
  have hinX7 : ∀ w ∈ u_ws RX7 TX7 92, w ∈ wsX7_status := fun _ h => List.mem_cons_of_mem _ (List.mem_append_right _ h)
  refine lv_iload_n hx hb dX7_status_0 rfl (lv_at hl 1 rfl) ?_
  refine lv_iconst (v := 0) hx hb dX7_status_1 (by decide +kernel) ?_
  refine lv_iconst (v := 5) hx hb dX7_status_2 (by decide +kernel) ?_
  refine k_ci (wc := []) (wr := [(h, .inr (7, oM r i j)), ((r 48), .inl (cI, 6, .inl f48))]) (fun hPc hDc hFc => va_runS (As := [.int x1, .int 0, .int 5]) (rest := []) ⟨hx, hb, hml, hown, hts⟩ (s_X7_is_v0 l dC dI cI cJ cZ cM x1 0 5 H.size) (va_cwS 3 hts gX7_status_X7_is rfl rfl rfl (by decide +kernel) ⟨(Nat.le_of_ble_eq_true rfl), (Nat.le_of_ble_eq_true rfl)⟩) (k_pS hPc hDc hK hN hC hS hFc) rfl rfl hl.1 rfl (lv_room (Nat.le_of_ble_eq_true rfl)) dX7_status_3 ⟨(Nat.le_of_ble_eq_true rfl), (Nat.le_of_ble_eq_true rfl)⟩) hP hD hS hA [] [0, 1] rfl rfl rfl rfl (by decide) (fun _ => rfl) 0 0 rfl rfl (fun r_3 u_3 H locs hw hP hD hS => ?_)
  obtain ⟨g_3_0, g_3_1⟩ := hw
  have hP : va_P (dC, dI) vwCl [(h, .inr (7, oM r i j)), ((r 48), .inl (cI, 6, .inl f48))] H := hP
  have hD : va_D A [(h, .inr (7, oM r i j)), ((r 48), .inl (cI, 6, .inl f48))] := hD
  have g_3_1 : (r_3 = 0) ∨ ((0 ≤ x1) ∧ (x1 ≤ 5)) := g_3_1
  refine lv_if_eq (tgt := 18) hx hb dX7_status_6 (by decide) (fun c_6 => ?_) (fun c_6 => ?_)
  · have c_6 : r_3 = 0 := c_6
    have f_18_1 : iR r_3 0 0 := iR_eqL c_6 g_3_0 (iR_c (n := 0) (a := 0) (b := 0) (by decide +kernel) (by decide +kernel)) (by decide +kernel)
    refine lv_iconst (v := (-1)) hx hb dX7_status_18 (by decide +kernel) ?_
    exact k_ri B hP hD hS dX7_status_19 () [0, 1] rfl rfl rfl (Nat.le_of_ble_eq_true rfl) (Nat.le_of_ble_eq_true rfl) trivial
  · have c_6 : ¬ r_3 = 0 := c_6
    have f_9_1 : iR r_3 1 1 := iR_neL c_6 g_3_0 (iR_c (n := 0) (a := 0) (b := 0) (by decide +kernel) (by decide +kernel)) (by decide +kernel)
    obtain ⟨d_6_1_0, d_6_1_1⟩ := g_3_1.resolve_left c_6
    have f_9_2 : iR x1 0 2147483647 := iR_leR d_6_1_0 (iR_c (n := 0) (a := 0) (b := 0) (by decide +kernel) (by decide +kernel)) (iR_top _) (by decide +kernel)
    have f_9_3 : iR x1 0 5 := iR_leL d_6_1_1 f_9_2 (iR_c (n := 5) (a := 5) (b := 5) (by decide +kernel) (by decide +kernel)) (by decide +kernel)
    refine lv_aload_n hx hb dX7_status_9 rfl (lv_at hl 0 rfl) ?_
    refine k_get (D := (dC, dI)) (ci := 7) (v := .ref (r 48)) (C := RX7) (T := TX7) (N := 92) hx hb hts hinX7 hown hK hP 0 rfl rfl 48 (by decide) w_0 rfl rfl dX7_status_10 ?_
    refine lv_iload_n hx hb dX7_status_13 rfl (lv_at hl 1 rfl) ?_
    refine va_iald hx hb hK hP 1 0 rfl rfl (iR_vp f_9_3 (by decide +kernel)) dX7_status_14 ?_
    refine lv_goto (tgt := 19) hx hb dX7_status_15 (by decide) ?_
    exact k_ri B hP hD hS dX7_status_19 () [0, 1] rfl rfl rfl (Nat.le_of_ble_eq_true rfl) (Nat.le_of_ble_eq_true rfl) trivial
set_option maxHeartbeats 8000000 in
set_option maxRecDepth 100000 in
theorem s_X7_wayTo_v0 (l : Launch) (dC : Nat → ClassId) (dI : Nat → Nat → Nat) (cI cJ cZ cM : ClassId) (h : Nat) (r : Nat → Nat) (i : Nat → Int32) (j : Nat → Int64) (x1 : Int32) (f73 : Nat → Int32) (f74 : Nat → Int32) (hx1 : iR x1 0 7) (hI : mR i) (hf73 : aR f73 0 1023) (hf74 : aR f74 0 11) : k_Mi l yX7_wayTo wsX7_wayTo ({ frames := 1, cells := 0, slots := 0, locals := 40 }) (dC, dI) vwCl (tyy cI cJ cZ cM) [(h, .inr (7, oM r i j)), ((r 73), .inl (cI, 9216, .inl f73)), ((r 74), .inl (cI, 9216, .inl f74))] [.ref h, .int x1] 0 0 (fun (u9 : Unit) => [(h, .inr (7, oM r i j)), ((r 73), .inl (cI, 9216, .inl f73)), ((r 74), .inl (cI, 9216, .inl f74))]) (fun (r9 : Int32) (u9 : Unit) => (iR r9 0 11)) := by
  refine fun sz => k_enter (cc := cX7_wayTo) (maxL := 4) (ret := some (.int)) (Qc := fun A => va_Qi (fun (r9 : Int32) (u9 : Unit) => (iR r9 0 11)) (fun u => k_B (dC, dI) vwCl (tyy cI cJ cZ cM) A ((fun (u9 : Unit) => [(h, .inr (7, oM r i j)), ((r 73), .inl (cI, 9216, .inl f73)), ((r 74), .inl (cI, 9216, .inl f74))]) u)) A) sz (by decide +kernel) rfl (Nat.le_of_ble_eq_true rfl) (fun p e s m args below meth c A ls H locs B hP hD hS hl => ?_)
  obtain ⟨hx, hb, hml, hown, hts, hr, hlk, hnm, hK, hA, hN, hC⟩ := id B
  have hown : s.vm.findClass RX7 = some m.cls := hown
  have hl : lv_has ls 4 [(0, .ref h), (1, .int x1)] := hl
  have w_0 : (Cond.fieldLink RX7 243 "WishSeaModel" "foundSet" "I").before args s = true := hts _ (List.mem_of_getElem? (i := 1) rfl)
  have w_1 : (Cond.fieldLink RX7 240 "WishSeaModel" "foundRung" "I").before args s = true := hts _ (List.mem_of_getElem? (i := 2) rfl)
  have w_2 : (Cond.fieldLink RX7 237 "WishSeaModel" "rungBy" "[I").before args s = true := hts _ (List.mem_of_getElem? (i := 4) rfl)
  have w_3 : (Cond.fieldLink RX7 234 "WishSeaModel" "rungFrom" "[I").before args s = true := hts _ (List.mem_of_getElem? (i := 3) rfl)
  have hinX7 : ∀ w ∈ u_ws RX7 TX7 92, w ∈ wsX7_wayTo := fun _ h => List.mem_cons_of_mem _ (List.mem_append_right _ h)
  refine lv_aload_n hx hb dX7_wayTo_0 rfl (lv_at hl 0 rfl) ?_
  have f_1_1 : iR (i 76) 0 1023 := hI 76
  refine k_get (D := (dC, dI)) (ci := 7) (v := .int (i 76)) (C := RX7) (T := TX7) (N := 92) hx hb hts hinX7 hown hK hP 0 rfl rfl 76 (by decide) w_0 rfl rfl dX7_wayTo_1 ?_
  refine lv_istore_n (lv' := [(2, .int (i 76)), (0, .ref h), (1, .int x1)]) hx hb dX7_wayTo_4 rfl hl (by decide) rfl (fun ls hl => ?_)
  refine lv_aload_n hx hb dX7_wayTo_5 rfl (lv_at hl 1 rfl) ?_
  have f_6_2 : iR (i 75) (-1) 8 := hI 75
  refine k_get (D := (dC, dI)) (ci := 7) (v := .int (i 75)) (C := RX7) (T := TX7) (N := 92) hx hb hts hinX7 hown hK hP 0 rfl rfl 75 (by decide) w_1 rfl rfl dX7_wayTo_6 ?_
  have J_10 : ∀ (n_10 : Nat) (j10_L2 : Int32) (j10_L3 : Int32) (hj10_L2 : iR j10_L2 0 1023) (hj10_L3 : iR j10_L3 (-1) 8) (hm_10 : (j10_L3.toInt - (-1)).toNat < n_10) (H : Heap) (locs : List Loc) (ls : Array Slot), va_P (dC, dI) vwCl [(h, .inr (7, oM r i j)), ((r 73), .inl (cI, 9216, .inl f73)), ((r 74), .inl (cI, 9216, .inl f74))] H → va_D A [(h, .inr (7, oM r i j)), ((r 73), .inl (cI, 9216, .inl f73)), ((r 74), .inl (cI, 9216, .inl f74))] → va_S A s.heap H locs → lv_has ls 4 [(0, .ref h), (1, .int x1), (2, .int j10_L2), (3, .int j10_L3)] → W p l e ({ frames := 1, cells := 0, slots := 0, locals := 40 }) s m args below meth c H locs 0 0 (MQ below (va_Qi (fun (r9 : Int32) (u9 : Unit) => (iR r9 0 11)) (fun u => k_B (dC, dI) vwCl (tyy cI cJ cZ cM) A ((fun (u9 : Unit) => [(h, .inr (7, oM r i j)), ((r 73), .inl (cI, 9216, .inl f73)), ((r 74), .inl (cI, 9216, .inl f74))]) u)) A) args s 0 0 A) (F0 m 10 ls []) := by
    intro n_10
    induction n_10 with
    | zero => intro j10_L2 j10_L3 hj10_L2 hj10_L3 hm_10; exact absurd hm_10 (Nat.not_lt_zero _)
    | succ n_10 ih_10 =>
      intro j10_L2 j10_L3 hj10_L2 hj10_L3 hm_10 H locs ls hP hD hS hl
      refine lv_iload_n hx hb dX7_wayTo_10 rfl (lv_at hl 3 rfl) ?_
      refine lv_iload_n hx hb dX7_wayTo_11 rfl (lv_at hl 1 rfl) ?_
      refine lv_iconst (v := 1) hx hb dX7_wayTo_12 (by decide +kernel) ?_
      refine lv_iadd hx hb dX7_wayTo_13 ?_
      refine lv_topi (fun y_13 ey_13 => ?_)
      have f_13_1 : iR y_13 1 8 := iR_add ey_13 hx1 (iR_c (n := 1) (a := 1) (b := 1) (by decide +kernel) (by decide +kernel)) (by decide +kernel)
      refine lv_icmp_le (tgt := 36) hx hb dX7_wayTo_14 (by decide) (fun c_14 => ?_) (fun c_14 => ?_)
      · have c_14 : j10_L3 ≤ y_13 := c_14
        refine lv_aload_n hx hb dX7_wayTo_36 rfl (lv_at hl 0 rfl) ?_
        refine k_get (D := (dC, dI)) (ci := 7) (v := .ref (r 74)) (C := RX7) (T := TX7) (N := 92) hx hb hts hinX7 hown hK hP 0 rfl rfl 74 (by decide) w_2 rfl rfl dX7_wayTo_37 ?_
        refine lv_sipush (v := 1024) hx hb dX7_wayTo_40 (by decide +kernel) ?_
        refine lv_iload_n hx hb dX7_wayTo_43 rfl (lv_at hl 1 rfl) ?_
        refine lv_iconst (v := 1) hx hb dX7_wayTo_44 (by decide +kernel) ?_
        refine lv_iadd hx hb dX7_wayTo_45 ?_
        refine lv_topi (fun y_45 ey_45 => ?_)
        have f_45_2 : iR y_45 1 8 := iR_add ey_45 hx1 (iR_c (n := 1) (a := 1) (b := 1) (by decide +kernel) (by decide +kernel)) (by decide +kernel)
        refine lv_imul hx hb dX7_wayTo_46 ?_
        refine lv_topi (fun y_46 ey_46 => ?_)
        have f_46_3 : iR y_46 1024 8192 := iR_mul ey_46 (iR_c (n := 1024) (a := 1024) (b := 1024) (by decide +kernel) (by decide +kernel)) f_45_2 (by decide +kernel)
        refine lv_iload_n hx hb dX7_wayTo_47 rfl (lv_at hl 2 rfl) ?_
        refine lv_iadd hx hb dX7_wayTo_48 ?_
        refine lv_topi (fun y_48 ey_48 => ?_)
        have f_48_4 : iR y_48 1024 9215 := iR_add ey_48 f_46_3 hj10_L2 (by decide +kernel)
        refine va_iald hx hb hK hP 2 0 rfl rfl (iR_vp f_48_4 (by decide +kernel)) dX7_wayTo_49 ?_
        have f_49_5 : iR (f74 y_48.toNatClampNeg) 0 11 := hf74 _
        exact k_ri B hP hD hS dX7_wayTo_50 () [0, 1, 2] rfl rfl rfl (Nat.le_of_ble_eq_true rfl) (Nat.le_of_ble_eq_true rfl) (show iR (f74 y_48.toNatClampNeg) 0 11 from f_49_5)
      · have c_14 : y_13 < j10_L3 := i_nle c_14
        have f_17_2 : iR y_13 1 7 := iR_ltL c_14 f_13_1 hj10_L3 (by decide +kernel)
        have f_17_3 : iR x1 0 6 := iR_addB ey_13 hx1 (iR_c (n := 1) (a := 1) (b := 1) (by decide +kernel) (by decide +kernel)) f_17_2 (by decide +kernel)
        have f_17_4 : iR j10_L3 2 8 := iR_ltR c_14 f_13_1 hj10_L3 (by decide +kernel)
        refine lv_aload_n hx hb dX7_wayTo_17 rfl (lv_at hl 0 rfl) ?_
        refine k_get (D := (dC, dI)) (ci := 7) (v := .ref (r 73)) (C := RX7) (T := TX7) (N := 92) hx hb hts hinX7 hown hK hP 0 rfl rfl 73 (by decide) w_3 rfl rfl dX7_wayTo_18 ?_
        refine lv_sipush (v := 1024) hx hb dX7_wayTo_21 (by decide +kernel) ?_
        refine lv_iload_n hx hb dX7_wayTo_24 rfl (lv_at hl 3 rfl) ?_
        refine lv_imul hx hb dX7_wayTo_25 ?_
        refine lv_topi (fun y_25 ey_25 => ?_)
        have f_25_5 : iR y_25 2048 8192 := iR_mul ey_25 (iR_c (n := 1024) (a := 1024) (b := 1024) (by decide +kernel) (by decide +kernel)) f_17_4 (by decide +kernel)
        refine lv_iload_n hx hb dX7_wayTo_26 rfl (lv_at hl 2 rfl) ?_
        refine lv_iadd hx hb dX7_wayTo_27 ?_
        refine lv_topi (fun y_27 ey_27 => ?_)
        have f_27_6 : iR y_27 2048 9215 := iR_add ey_27 f_25_5 hj10_L2 (by decide +kernel)
        refine va_iald hx hb hK hP 1 0 rfl rfl (iR_vp f_27_6 (by decide +kernel)) dX7_wayTo_28 ?_
        have f_28_7 : iR (f73 y_27.toNatClampNeg) 0 1023 := hf73 _
        refine lv_istore_n (lv' := [(2, .int (f73 y_27.toNatClampNeg)), (0, .ref h), (1, .int x1), (3, .int j10_L3)]) hx hb dX7_wayTo_29 rfl hl (by decide) rfl (fun ls hl => ?_)
        obtain ⟨y_30, ey_30⟩ : ∃ y : Int32, y = j10_L3 + (-1) := ⟨_, rfl⟩
        refine lv_iinc (v := y_30) (lv' := [(3, .int y_30), (2, .int (f73 y_27.toNatClampNeg)), (0, .ref h), (1, .int x1)]) hx hb dX7_wayTo_30 hl (k := 3) rfl ey_30.symm (by decide) rfl (fun ls hl => ?_)
        have f_30_8 : iR y_30 1 7 := iR_add ey_30 f_17_4 (iR_c (n := (-1)) (a := (-1)) (b := (-1)) (by decide +kernel) (by decide +kernel)) (by decide +kernel)
        refine lv_goto (tgt := 10) hx hb dX7_wayTo_33 (by decide) ?_
        exact ih_10 (f73 y_27.toNatClampNeg) y_30 f_28_7 (iR_w f_30_8 (by decide +kernel)) (m_dn (B := (-1)) hm_10 ey_30 f_17_4 (by decide +kernel)) H locs ls hP hD hS (lv_sub hl [2, 3, 1, 0] rfl)
  refine lv_istore_n (lv' := [(3, .int (i 75)), (2, .int (i 76)), (0, .ref h), (1, .int x1)]) hx hb dX7_wayTo_9 rfl hl (by decide) rfl (fun ls hl => ?_)
  exact J_10 _ (i 76) (i 75) f_1_1 f_6_2 (Nat.lt_succ_self _) H locs ls hP hD hS (lv_sub hl [2, 3, 1, 0] rfl)
set_option maxHeartbeats 8000000 in
set_option maxRecDepth 100000 in
theorem s_X7_writesDown_v0 (l : Launch) (dC : Nat → ClassId) (dI : Nat → Nat → Nat) (cI cJ cZ cM : ClassId) (h : Nat) (r : Nat → Nat) (i : Nat → Int32) (j : Nat → Int64) (x1 : Int32) (x2 : Int32) (f50 : Nat → Int32) (f52 : Nat → Int32) (f53 : Nat → Int32) (f54 : Nat → Int32) (f55 : Nat → Int32) (f56 : Nat → Int32) (f57 : Nat → Int32) (hx1 : iR x1 0 11) (hx2 : iR x2 0 1) (hI : mR i) (hf50 : aR f50 0 999) (hf53 : aR f53 0 50) : k_Mv l yX7_writesDown wsX7_writesDown ({ frames := 1, cells := 0, slots := 0, locals := 40 }) (dC, dI) vwCl (tyy cI cJ cZ cM) [(h, .inr (7, oM r i j)), ((r 50), .inl (cI, 22, .inl f50)), ((r 52), .inl (cI, 22, .inl f52)), ((r 53), .inl (cI, 22, .inl f53)), ((r 54), .inl (cI, 1100, .inl f54)), ((r 55), .inl (cI, 1100, .inl f55)), ((r 56), .inl (cI, 1100, .inl f56)), ((r 57), .inl (cI, 1100, .inl f57))] [.ref h, .int x1, .int x2] 0 0 (fun (u9 : SU) => [(h, .inr (7, oM r i j)), ((r 50), .inl (cI, 22, .inl f50)), ((r 52), .inl (cI, 22, .inl f52)), ((r 53), .inl (cI, 22, .inl (u9.2.2.1 0))), ((r 54), .inl (cI, 1100, .inl (u9.2.2.1 1))), ((r 55), .inl (cI, 1100, .inl (u9.2.2.1 2))), ((r 56), .inl (cI, 1100, .inl (u9.2.2.1 3))), ((r 57), .inl (cI, 1100, .inl (u9.2.2.1 4)))]) (fun (u9 : SU) => (aR (u9.2.2.1 0) 0 50)) := by
  refine fun sz => k_enter (cc := cX7_writesDown) (maxL := 4) (ret := none) (Qc := fun A => va_Qv (fun (u9 : SU) => (aR (u9.2.2.1 0) 0 50)) (fun u => k_B (dC, dI) vwCl (tyy cI cJ cZ cM) A ((fun (u9 : SU) => [(h, .inr (7, oM r i j)), ((r 50), .inl (cI, 22, .inl f50)), ((r 52), .inl (cI, 22, .inl f52)), ((r 53), .inl (cI, 22, .inl (u9.2.2.1 0))), ((r 54), .inl (cI, 1100, .inl (u9.2.2.1 1))), ((r 55), .inl (cI, 1100, .inl (u9.2.2.1 2))), ((r 56), .inl (cI, 1100, .inl (u9.2.2.1 3))), ((r 57), .inl (cI, 1100, .inl (u9.2.2.1 4)))]) u)) A) sz (by decide +kernel) rfl (Nat.le_of_ble_eq_true rfl) (fun p e s m args below meth c A ls H locs B hP hD hS hl => ?_)
  obtain ⟨hx, hb, hml, hown, hts, hr, hlk, hnm, hK, hA, hN, hC⟩ := id B
  have hown : s.vm.findClass RX7 = some m.cls := hown
  have hl : lv_has ls 4 [(0, .ref h), (1, .int x1), (2, .int x2)] := hl
  have w_0 : (Cond.fieldLink RX7 174 "WishSeaModel" "keptMany" "[I").before args s = true := hts _ (List.mem_of_getElem? (i := 1) rfl)
  have w_1 : (Cond.fieldLink RX7 177 "WishSeaModel" "keptDay" "[I").before args s = true := hts _ (List.mem_of_getElem? (i := 2) rfl)
  have w_2 : (Cond.fieldLink RX7 171 "WishSeaModel" "dayOf" "[I").before args s = true := hts _ (List.mem_of_getElem? (i := 6) rfl)
  have w_3 : (Cond.fieldLink RX7 180 "WishSeaModel" "keptWish" "[I").before args s = true := hts _ (List.mem_of_getElem? (i := 3) rfl)
  have w_4 : (Cond.fieldLink RX7 183 "WishSeaModel" "keptSea" "[I").before args s = true := hts _ (List.mem_of_getElem? (i := 4) rfl)
  have w_5 : (Cond.fieldLink RX7 165 "WishSeaModel" "seaOf" "[I").before args s = true := hts _ (List.mem_of_getElem? (i := 7) rfl)
  have w_6 : (Cond.fieldLink RX7 186 "WishSeaModel" "keptFell" "[I").before args s = true := hts _ (List.mem_of_getElem? (i := 5) rfl)
  have hinX7 : ∀ w ∈ u_ws RX7 TX7 92, w ∈ wsX7_writesDown := fun _ h => List.mem_cons_of_mem _ (List.mem_append_right _ h)
  refine lv_aload_n hx hb dX7_writesDown_0 rfl (lv_at hl 0 rfl) ?_
  refine k_get (D := (dC, dI)) (ci := 7) (v := .ref (r 53)) (C := RX7) (T := TX7) (N := 92) hx hb hts hinX7 hown hK hP 0 rfl rfl 53 (by decide) w_0 rfl rfl dX7_writesDown_1 ?_
  refine lv_iconst (v := 0) hx hb dX7_writesDown_4 (by decide +kernel) ?_
  refine k_iald (v := (f53 0)) hx hb hK hP 3 0 0 rfl rfl rfl (Nat.le_of_ble_eq_true rfl) (Nat.le_of_ble_eq_true rfl) rfl dX7_writesDown_5 ?_
  have f_5_1 : iR (f53 0) 0 50 := hf53 _
  refine lv_bipush (v := 50) hx hb dX7_writesDown_6 (by decide +kernel) ?_
  refine lv_icmp_ne (tgt := 91) hx hb dX7_writesDown_8 (by decide) (fun c_8 => ?_) (fun c_8 => ?_)
  · have c_8 : ¬ (f53 0) = 50 := c_8
    have f_91_2 : iR (f53 0) 0 49 := iR_neL c_8 f_5_1 (iR_c (n := 50) (a := 50) (b := 50) (by decide +kernel) (by decide +kernel)) (by decide +kernel)
    refine lv_aload_n hx hb dX7_writesDown_91 rfl (lv_at hl 0 rfl) ?_
    refine k_get (D := (dC, dI)) (ci := 7) (v := .ref (r 53)) (C := RX7) (T := TX7) (N := 92) hx hb hts hinX7 hown hK hP 0 rfl rfl 53 (by decide) w_0 rfl rfl dX7_writesDown_92 ?_
    refine lv_iconst (v := 0) hx hb dX7_writesDown_95 (by decide +kernel) ?_
    refine k_iald (v := (f53 0)) hx hb hK hP 3 0 0 rfl rfl rfl (Nat.le_of_ble_eq_true rfl) (Nat.le_of_ble_eq_true rfl) rfl dX7_writesDown_96 ?_
    refine lv_istore_n (lv' := [(3, .int (f53 0)), (0, .ref h), (1, .int x1), (2, .int x2)]) hx hb dX7_writesDown_97 rfl hl (by decide) rfl (fun ls hl => ?_)
    refine lv_aload_n hx hb dX7_writesDown_98 rfl (lv_at hl 1 rfl) ?_
    refine k_get (D := (dC, dI)) (ci := 7) (v := .ref (r 54)) (C := RX7) (T := TX7) (N := 92) hx hb hts hinX7 hown hK hP 0 rfl rfl 54 (by decide) w_1 rfl rfl dX7_writesDown_99 ?_
    refine lv_iload_n hx hb dX7_writesDown_102 rfl (lv_at hl 0 rfl) ?_
    refine lv_aload_n hx hb dX7_writesDown_103 rfl (lv_at hl 1 rfl) ?_
    refine k_get (D := (dC, dI)) (ci := 7) (v := .ref (r 52)) (C := RX7) (T := TX7) (N := 92) hx hb hts hinX7 hown hK hP 0 rfl rfl 52 (by decide) w_2 rfl rfl dX7_writesDown_104 ?_
    refine lv_iconst (v := 0) hx hb dX7_writesDown_107 (by decide +kernel) ?_
    refine k_iald (v := (f52 0)) hx hb hK hP 2 0 0 rfl rfl rfl (Nat.le_of_ble_eq_true rfl) (Nat.le_of_ble_eq_true rfl) rfl dX7_writesDown_108 ?_
    refine s_iast (g := (upd f54 (f53 0).toNatClampNeg (f52 0))) (ws' := [(h, .inr (7, oM r i j)), ((r 50), .inl (cI, 22, .inl f50)), ((r 52), .inl (cI, 22, .inl f52)), ((r 53), .inl (cI, 22, .inl f53)), ((r 54), .inl (cI, 1100, .inl (upd f54 (f53 0).toNatClampNeg (f52 0)))), ((r 55), .inl (cI, 1100, .inl f55)), ((r 56), .inl (cI, 1100, .inl f56)), ((r 57), .inl (cI, 1100, .inl f57))]) hx hb hK hP hD hS 4 0 rfl rfl (iR_vp f_91_2 (by decide +kernel)) rfl rfl dX7_writesDown_109 (fun H locs hP hD hS => ?_)
    refine lv_aload_n hx hb dX7_writesDown_110 rfl (lv_at hl 1 rfl) ?_
    refine k_get (D := (dC, dI)) (ci := 7) (v := .ref (r 55)) (C := RX7) (T := TX7) (N := 92) hx hb hts hinX7 hown hK hP 0 rfl rfl 55 (by decide) w_3 rfl rfl dX7_writesDown_111 ?_
    refine lv_iload_n hx hb dX7_writesDown_114 rfl (lv_at hl 0 rfl) ?_
    refine lv_iload_n hx hb dX7_writesDown_115 rfl (lv_at hl 2 rfl) ?_
    refine s_iast (g := (upd f55 (f53 0).toNatClampNeg x1)) (ws' := [(h, .inr (7, oM r i j)), ((r 50), .inl (cI, 22, .inl f50)), ((r 52), .inl (cI, 22, .inl f52)), ((r 53), .inl (cI, 22, .inl f53)), ((r 54), .inl (cI, 1100, .inl (upd f54 (f53 0).toNatClampNeg (f52 0)))), ((r 55), .inl (cI, 1100, .inl (upd f55 (f53 0).toNatClampNeg x1))), ((r 56), .inl (cI, 1100, .inl f56)), ((r 57), .inl (cI, 1100, .inl f57))]) hx hb hK hP hD hS 5 0 rfl rfl (iR_vp f_91_2 (by decide +kernel)) rfl rfl dX7_writesDown_116 (fun H locs hP hD hS => ?_)
    refine lv_aload_n hx hb dX7_writesDown_117 rfl (lv_at hl 1 rfl) ?_
    refine k_get (D := (dC, dI)) (ci := 7) (v := .ref (r 56)) (C := RX7) (T := TX7) (N := 92) hx hb hts hinX7 hown hK hP 0 rfl rfl 56 (by decide) w_4 rfl rfl dX7_writesDown_118 ?_
    refine lv_iload_n hx hb dX7_writesDown_121 rfl (lv_at hl 0 rfl) ?_
    refine lv_aload_n hx hb dX7_writesDown_122 rfl (lv_at hl 1 rfl) ?_
    refine k_get (D := (dC, dI)) (ci := 7) (v := .ref (r 50)) (C := RX7) (T := TX7) (N := 92) hx hb hts hinX7 hown hK hP 0 rfl rfl 50 (by decide) w_5 rfl rfl dX7_writesDown_123 ?_
    refine lv_iconst (v := 0) hx hb dX7_writesDown_126 (by decide +kernel) ?_
    refine k_iald (v := (f50 0)) hx hb hK hP 1 0 0 rfl rfl rfl (Nat.le_of_ble_eq_true rfl) (Nat.le_of_ble_eq_true rfl) rfl dX7_writesDown_127 ?_
    have f_127p8_3 : iR (f50 0) 0 999 := hf50 _
    refine s_iast (g := (upd f56 (f53 0).toNatClampNeg (f50 0))) (ws' := [(h, .inr (7, oM r i j)), ((r 50), .inl (cI, 22, .inl f50)), ((r 52), .inl (cI, 22, .inl f52)), ((r 53), .inl (cI, 22, .inl f53)), ((r 54), .inl (cI, 1100, .inl (upd f54 (f53 0).toNatClampNeg (f52 0)))), ((r 55), .inl (cI, 1100, .inl (upd f55 (f53 0).toNatClampNeg x1))), ((r 56), .inl (cI, 1100, .inl (upd f56 (f53 0).toNatClampNeg (f50 0)))), ((r 57), .inl (cI, 1100, .inl f57))]) hx hb hK hP hD hS 6 0 rfl rfl (iR_vp f_91_2 (by decide +kernel)) rfl rfl dX7_writesDown_128 (fun H locs hP hD hS => ?_)
    refine lv_aload_n hx hb dX7_writesDown_129 rfl (lv_at hl 1 rfl) ?_
    refine k_get (D := (dC, dI)) (ci := 7) (v := .ref (r 57)) (C := RX7) (T := TX7) (N := 92) hx hb hts hinX7 hown hK hP 0 rfl rfl 57 (by decide) w_6 rfl rfl dX7_writesDown_130 ?_
    refine lv_iload_n hx hb dX7_writesDown_133 rfl (lv_at hl 0 rfl) ?_
    refine lv_iload_n hx hb dX7_writesDown_134 rfl (lv_at hl 3 rfl) ?_
    have J_143p8 : ∀ (j143p8_S0 : Int32) (hj143p8_S0 : iR j143p8_S0 0 1) (H : Heap) (locs : List Loc) (ls : Array Slot), va_P (dC, dI) vwCl [(h, .inr (7, oM r i j)), ((r 50), .inl (cI, 22, .inl f50)), ((r 52), .inl (cI, 22, .inl f52)), ((r 53), .inl (cI, 22, .inl f53)), ((r 54), .inl (cI, 1100, .inl (upd f54 (f53 0).toNatClampNeg (f52 0)))), ((r 55), .inl (cI, 1100, .inl (upd f55 (f53 0).toNatClampNeg x1))), ((r 56), .inl (cI, 1100, .inl (upd f56 (f53 0).toNatClampNeg (f50 0)))), ((r 57), .inl (cI, 1100, .inl f57))] H → va_D A [(h, .inr (7, oM r i j)), ((r 50), .inl (cI, 22, .inl f50)), ((r 52), .inl (cI, 22, .inl f52)), ((r 53), .inl (cI, 22, .inl f53)), ((r 54), .inl (cI, 1100, .inl (upd f54 (f53 0).toNatClampNeg (f52 0)))), ((r 55), .inl (cI, 1100, .inl (upd f55 (f53 0).toNatClampNeg x1))), ((r 56), .inl (cI, 1100, .inl (upd f56 (f53 0).toNatClampNeg (f50 0)))), ((r 57), .inl (cI, 1100, .inl f57))] → va_S A s.heap H locs → lv_has ls 4 [(0, .ref h)] → W p l e ({ frames := 1, cells := 0, slots := 0, locals := 40 }) s m args below meth c H locs 0 0 (MQ below (va_Qv (fun (u9 : SU) => (aR (u9.2.2.1 0) 0 50)) (fun u => k_B (dC, dI) vwCl (tyy cI cJ cZ cM) A ((fun (u9 : SU) => [(h, .inr (7, oM r i j)), ((r 50), .inl (cI, 22, .inl f50)), ((r 52), .inl (cI, 22, .inl f52)), ((r 53), .inl (cI, 22, .inl (u9.2.2.1 0))), ((r 54), .inl (cI, 1100, .inl (u9.2.2.1 1))), ((r 55), .inl (cI, 1100, .inl (u9.2.2.1 2))), ((r 56), .inl (cI, 1100, .inl (u9.2.2.1 3))), ((r 57), .inl (cI, 1100, .inl (u9.2.2.1 4)))]) u)) A) args s 0 0 A) (F0 m 143 ls [.int j143p8_S0, .int (f53 0), .ref (r 57)]) := by
      intro j143p8_S0 hj143p8_S0 H locs ls hP hD hS hl
      refine s_iast (g := (upd f57 (f53 0).toNatClampNeg j143p8_S0)) (ws' := [(h, .inr (7, oM r i j)), ((r 50), .inl (cI, 22, .inl f50)), ((r 52), .inl (cI, 22, .inl f52)), ((r 53), .inl (cI, 22, .inl f53)), ((r 54), .inl (cI, 1100, .inl (upd f54 (f53 0).toNatClampNeg (f52 0)))), ((r 55), .inl (cI, 1100, .inl (upd f55 (f53 0).toNatClampNeg x1))), ((r 56), .inl (cI, 1100, .inl (upd f56 (f53 0).toNatClampNeg (f50 0)))), ((r 57), .inl (cI, 1100, .inl (upd f57 (f53 0).toNatClampNeg j143p8_S0)))]) hx hb hK hP hD hS 7 0 rfl rfl (iR_vp f_91_2 (by decide +kernel)) rfl rfl dX7_writesDown_143 (fun H locs hP hD hS => ?_)
      refine lv_aload_n hx hb dX7_writesDown_144 rfl (lv_at hl 0 rfl) ?_
      refine k_get (D := (dC, dI)) (ci := 7) (v := .ref (r 53)) (C := RX7) (T := TX7) (N := 92) hx hb hts hinX7 hown hK hP 0 rfl rfl 53 (by decide) w_0 rfl rfl dX7_writesDown_145 ?_
      refine lv_iconst (v := 0) hx hb dX7_writesDown_148 (by decide +kernel) ?_
      refine lv_dup2_11 hx hb dX7_writesDown_149 rfl rfl ?_
      refine k_iald (v := (f53 0)) hx hb hK hP 3 0 0 rfl rfl rfl (Nat.le_of_ble_eq_true rfl) (Nat.le_of_ble_eq_true rfl) rfl dX7_writesDown_150 ?_
      refine lv_iconst (v := 1) hx hb dX7_writesDown_151 (by decide +kernel) ?_
      refine lv_iadd hx hb dX7_writesDown_152 ?_
      refine lv_topi (fun y_152p8 ey_152p8 => ?_)
      have f_152p8_1 : iR y_152p8 1 50 := iR_add ey_152p8 f_91_2 (iR_c (n := 1) (a := 1) (b := 1) (by decide +kernel) (by decide +kernel)) (by decide +kernel)
      refine k_iast (g := (upd f53 0 y_152p8)) (ws' := [(h, .inr (7, oM r i j)), ((r 50), .inl (cI, 22, .inl f50)), ((r 52), .inl (cI, 22, .inl f52)), ((r 53), .inl (cI, 22, .inl (upd f53 0 y_152p8))), ((r 54), .inl (cI, 1100, .inl (upd f54 (f53 0).toNatClampNeg (f52 0)))), ((r 55), .inl (cI, 1100, .inl (upd f55 (f53 0).toNatClampNeg x1))), ((r 56), .inl (cI, 1100, .inl (upd f56 (f53 0).toNatClampNeg (f50 0)))), ((r 57), .inl (cI, 1100, .inl (upd f57 (f53 0).toNatClampNeg j143p8_S0)))]) hx hb hK hP hD hS 3 0 0 rfl rfl rfl (Nat.le_of_ble_eq_true rfl) (Nat.le_of_ble_eq_true rfl) rfl rfl dX7_writesDown_153 (fun H locs hP hD hS => ?_)
      exact k_rv B hP hD hS dX7_writesDown_154 ((fun _ => 0), (fun _ => 0), (fun k9 => match k9 with | 0 => (upd f53 0 y_152p8) | 1 => (upd f54 (f53 0).toNatClampNeg (f52 0)) | 2 => (upd f55 (f53 0).toNatClampNeg x1) | 3 => (upd f56 (f53 0).toNatClampNeg (f50 0)) | 4 => (upd f57 (f53 0).toNatClampNeg j143p8_S0) | _ => (fun _ => 0)), (fun _ => (fun _ => 0)), (fun _ => 0)) [0, 1, 2, 3, 4, 5, 6, 7] rfl rfl (Nat.le_of_ble_eq_true rfl) (Nat.le_of_ble_eq_true rfl) (show aR (upd f53 0 y_152p8) 0 50 from (aR_upd _ hf53 (iR_w f_152p8_1 (by decide +kernel))))
    refine lv_if_eq (tgt := 142) hx hb dX7_writesDown_135 (by decide) (fun c_135p8 => ?_) (fun c_135p8 => ?_)
    · have c_135p8 : x2 = 0 := c_135p8
      have f_142p8_4 : iR x2 0 0 := iR_eqL c_135p8 hx2 (iR_c (n := 0) (a := 0) (b := 0) (by decide +kernel) (by decide +kernel)) (by decide +kernel)
      refine lv_iconst (v := 0) hx hb dX7_writesDown_142 (by decide +kernel) ?_
      exact J_143p8 0 (iR_c (n := 0) (a := 0) (b := 1) (by decide +kernel) (by decide +kernel)) H locs ls hP hD hS (lv_sub hl [1] rfl)
    · have c_135p8 : ¬ x2 = 0 := c_135p8
      have f_138p8_4 : iR x2 1 1 := iR_neL c_135p8 hx2 (iR_c (n := 0) (a := 0) (b := 0) (by decide +kernel) (by decide +kernel)) (by decide +kernel)
      refine lv_iconst (v := 1) hx hb dX7_writesDown_138 (by decide +kernel) ?_
      refine lv_goto (tgt := 143) hx hb dX7_writesDown_139 (by decide) ?_
      exact J_143p8 1 (iR_c (n := 1) (a := 0) (b := 1) (by decide +kernel) (by decide +kernel)) H locs ls hP hD hS (lv_sub hl [1] rfl)
  · have c_8 : (f53 0) = 50 := c_8
    have f_11_2 : iR (f53 0) 50 50 := iR_eqL c_8 f_5_1 (iR_c (n := 50) (a := 50) (b := 50) (by decide +kernel) (by decide +kernel)) (by decide +kernel)
    refine lv_iconst (v := 0) hx hb dX7_writesDown_11 (by decide +kernel) ?_
    have J_13 : ∀ (n_13 : Nat) (j13_A4 : Nat → Int32) (j13_A5 : Nat → Int32) (j13_A6 : Nat → Int32) (j13_A7 : Nat → Int32) (j13_L3 : Int32) (hj13_L3 : iR j13_L3 0 49) (hm_13 : (49 - j13_L3.toInt).toNat < n_13) (H : Heap) (locs : List Loc) (ls : Array Slot), va_P (dC, dI) vwCl [(h, .inr (7, oM r i j)), ((r 50), .inl (cI, 22, .inl f50)), ((r 52), .inl (cI, 22, .inl f52)), ((r 53), .inl (cI, 22, .inl f53)), ((r 54), .inl (cI, 1100, .inl j13_A4)), ((r 55), .inl (cI, 1100, .inl j13_A5)), ((r 56), .inl (cI, 1100, .inl j13_A6)), ((r 57), .inl (cI, 1100, .inl j13_A7))] H → va_D A [(h, .inr (7, oM r i j)), ((r 50), .inl (cI, 22, .inl f50)), ((r 52), .inl (cI, 22, .inl f52)), ((r 53), .inl (cI, 22, .inl f53)), ((r 54), .inl (cI, 1100, .inl j13_A4)), ((r 55), .inl (cI, 1100, .inl j13_A5)), ((r 56), .inl (cI, 1100, .inl j13_A6)), ((r 57), .inl (cI, 1100, .inl j13_A7))] → va_S A s.heap H locs → lv_has ls 4 [(0, .ref h), (1, .int x1), (2, .int x2), (3, .int j13_L3)] → W p l e ({ frames := 1, cells := 0, slots := 0, locals := 40 }) s m args below meth c H locs 0 0 (MQ below (va_Qv (fun (u9 : SU) => (aR (u9.2.2.1 0) 0 50)) (fun u => k_B (dC, dI) vwCl (tyy cI cJ cZ cM) A ((fun (u9 : SU) => [(h, .inr (7, oM r i j)), ((r 50), .inl (cI, 22, .inl f50)), ((r 52), .inl (cI, 22, .inl f52)), ((r 53), .inl (cI, 22, .inl (u9.2.2.1 0))), ((r 54), .inl (cI, 1100, .inl (u9.2.2.1 1))), ((r 55), .inl (cI, 1100, .inl (u9.2.2.1 2))), ((r 56), .inl (cI, 1100, .inl (u9.2.2.1 3))), ((r 57), .inl (cI, 1100, .inl (u9.2.2.1 4)))]) u)) A) args s 0 0 A) (F0 m 13 ls []) := by
      intro n_13
      induction n_13 with
      | zero => intro j13_A4 j13_A5 j13_A6 j13_A7 j13_L3 hj13_L3 hm_13; exact absurd hm_13 (Nat.not_lt_zero _)
      | succ n_13 ih_13 =>
        intro j13_A4 j13_A5 j13_A6 j13_A7 j13_L3 hj13_L3 hm_13 H locs ls hP hD hS hl
        refine lv_iload_n hx hb dX7_writesDown_13 rfl (lv_at hl 3 rfl) ?_
        refine lv_bipush (v := 49) hx hb dX7_writesDown_14 (by decide +kernel) ?_
        refine lv_icmp_ge (tgt := 81) hx hb dX7_writesDown_16 (by decide) (fun c_16 => ?_) (fun c_16 => ?_)
        · have c_16 : 49 ≤ j13_L3 := c_16
          have f_81_1 : iR j13_L3 49 49 := iR_leR c_16 (iR_c (n := 49) (a := 49) (b := 49) (by decide +kernel) (by decide +kernel)) hj13_L3 (by decide +kernel)
          refine lv_aload_n hx hb dX7_writesDown_81 rfl (lv_at hl 0 rfl) ?_
          refine k_get (D := (dC, dI)) (ci := 7) (v := .ref (r 53)) (C := RX7) (T := TX7) (N := 92) hx hb hts hinX7 hown hK hP 0 rfl rfl 53 (by decide) w_0 rfl rfl dX7_writesDown_82 ?_
          refine lv_iconst (v := 0) hx hb dX7_writesDown_85 (by decide +kernel) ?_
          refine lv_dup2_11 hx hb dX7_writesDown_86 rfl rfl ?_
          refine k_iald (v := (f53 0)) hx hb hK hP 3 0 0 rfl rfl rfl (Nat.le_of_ble_eq_true rfl) (Nat.le_of_ble_eq_true rfl) rfl dX7_writesDown_87 ?_
          refine lv_iconst (v := 1) hx hb dX7_writesDown_88 (by decide +kernel) ?_
          refine lv_isub hx hb dX7_writesDown_89 ?_
          refine lv_topi (fun y_89 ey_89 => ?_)
          have f_89_2 : iR y_89 49 49 := iR_sub ey_89 f_11_2 (iR_c (n := 1) (a := 1) (b := 1) (by decide +kernel) (by decide +kernel)) (by decide +kernel)
          refine k_iast (g := (upd f53 0 y_89)) (ws' := [(h, .inr (7, oM r i j)), ((r 50), .inl (cI, 22, .inl f50)), ((r 52), .inl (cI, 22, .inl f52)), ((r 53), .inl (cI, 22, .inl (upd f53 0 y_89))), ((r 54), .inl (cI, 1100, .inl j13_A4)), ((r 55), .inl (cI, 1100, .inl j13_A5)), ((r 56), .inl (cI, 1100, .inl j13_A6)), ((r 57), .inl (cI, 1100, .inl j13_A7))]) hx hb hK hP hD hS 3 0 0 rfl rfl rfl (Nat.le_of_ble_eq_true rfl) (Nat.le_of_ble_eq_true rfl) rfl rfl dX7_writesDown_90 (fun H locs hP hD hS => ?_)
          refine lv_aload_n hx hb dX7_writesDown_91 rfl (lv_at hl 0 rfl) ?_
          refine k_get (D := (dC, dI)) (ci := 7) (v := .ref (r 53)) (C := RX7) (T := TX7) (N := 92) hx hb hts hinX7 hown hK hP 0 rfl rfl 53 (by decide) w_0 rfl rfl dX7_writesDown_92 ?_
          refine lv_iconst (v := 0) hx hb dX7_writesDown_95 (by decide +kernel) ?_
          refine k_iald (v := ((upd f53 0 y_89) 0)) hx hb hK hP 3 0 0 rfl rfl rfl (Nat.le_of_ble_eq_true rfl) (Nat.le_of_ble_eq_true rfl) rfl dX7_writesDown_96 ?_
          refine k_int (v := y_89) rfl ?_
          refine lv_istore_n (lv' := [(3, .int y_89), (0, .ref h), (1, .int x1), (2, .int x2)]) hx hb dX7_writesDown_97 rfl hl (by decide) rfl (fun ls hl => ?_)
          refine lv_aload_n hx hb dX7_writesDown_98 rfl (lv_at hl 1 rfl) ?_
          refine k_get (D := (dC, dI)) (ci := 7) (v := .ref (r 54)) (C := RX7) (T := TX7) (N := 92) hx hb hts hinX7 hown hK hP 0 rfl rfl 54 (by decide) w_1 rfl rfl dX7_writesDown_99 ?_
          refine lv_iload_n hx hb dX7_writesDown_102 rfl (lv_at hl 0 rfl) ?_
          refine lv_aload_n hx hb dX7_writesDown_103 rfl (lv_at hl 1 rfl) ?_
          refine k_get (D := (dC, dI)) (ci := 7) (v := .ref (r 52)) (C := RX7) (T := TX7) (N := 92) hx hb hts hinX7 hown hK hP 0 rfl rfl 52 (by decide) w_2 rfl rfl dX7_writesDown_104 ?_
          refine lv_iconst (v := 0) hx hb dX7_writesDown_107 (by decide +kernel) ?_
          refine k_iald (v := (f52 0)) hx hb hK hP 2 0 0 rfl rfl rfl (Nat.le_of_ble_eq_true rfl) (Nat.le_of_ble_eq_true rfl) rfl dX7_writesDown_108 ?_
          refine s_iast (g := (upd j13_A4 y_89.toNatClampNeg (f52 0))) (ws' := [(h, .inr (7, oM r i j)), ((r 50), .inl (cI, 22, .inl f50)), ((r 52), .inl (cI, 22, .inl f52)), ((r 53), .inl (cI, 22, .inl (upd f53 0 y_89))), ((r 54), .inl (cI, 1100, .inl (upd j13_A4 y_89.toNatClampNeg (f52 0)))), ((r 55), .inl (cI, 1100, .inl j13_A5)), ((r 56), .inl (cI, 1100, .inl j13_A6)), ((r 57), .inl (cI, 1100, .inl j13_A7))]) hx hb hK hP hD hS 4 0 rfl rfl (iR_vp f_89_2 (by decide +kernel)) rfl rfl dX7_writesDown_109 (fun H locs hP hD hS => ?_)
          refine lv_aload_n hx hb dX7_writesDown_110 rfl (lv_at hl 1 rfl) ?_
          refine k_get (D := (dC, dI)) (ci := 7) (v := .ref (r 55)) (C := RX7) (T := TX7) (N := 92) hx hb hts hinX7 hown hK hP 0 rfl rfl 55 (by decide) w_3 rfl rfl dX7_writesDown_111 ?_
          refine lv_iload_n hx hb dX7_writesDown_114 rfl (lv_at hl 0 rfl) ?_
          refine lv_iload_n hx hb dX7_writesDown_115 rfl (lv_at hl 2 rfl) ?_
          refine s_iast (g := (upd j13_A5 y_89.toNatClampNeg x1)) (ws' := [(h, .inr (7, oM r i j)), ((r 50), .inl (cI, 22, .inl f50)), ((r 52), .inl (cI, 22, .inl f52)), ((r 53), .inl (cI, 22, .inl (upd f53 0 y_89))), ((r 54), .inl (cI, 1100, .inl (upd j13_A4 y_89.toNatClampNeg (f52 0)))), ((r 55), .inl (cI, 1100, .inl (upd j13_A5 y_89.toNatClampNeg x1))), ((r 56), .inl (cI, 1100, .inl j13_A6)), ((r 57), .inl (cI, 1100, .inl j13_A7))]) hx hb hK hP hD hS 5 0 rfl rfl (iR_vp f_89_2 (by decide +kernel)) rfl rfl dX7_writesDown_116 (fun H locs hP hD hS => ?_)
          refine lv_aload_n hx hb dX7_writesDown_117 rfl (lv_at hl 1 rfl) ?_
          refine k_get (D := (dC, dI)) (ci := 7) (v := .ref (r 56)) (C := RX7) (T := TX7) (N := 92) hx hb hts hinX7 hown hK hP 0 rfl rfl 56 (by decide) w_4 rfl rfl dX7_writesDown_118 ?_
          refine lv_iload_n hx hb dX7_writesDown_121 rfl (lv_at hl 0 rfl) ?_
          refine lv_aload_n hx hb dX7_writesDown_122 rfl (lv_at hl 1 rfl) ?_
          refine k_get (D := (dC, dI)) (ci := 7) (v := .ref (r 50)) (C := RX7) (T := TX7) (N := 92) hx hb hts hinX7 hown hK hP 0 rfl rfl 50 (by decide) w_5 rfl rfl dX7_writesDown_123 ?_
          refine lv_iconst (v := 0) hx hb dX7_writesDown_126 (by decide +kernel) ?_
          refine k_iald (v := (f50 0)) hx hb hK hP 1 0 0 rfl rfl rfl (Nat.le_of_ble_eq_true rfl) (Nat.le_of_ble_eq_true rfl) rfl dX7_writesDown_127 ?_
          have f_127p90_3 : iR (f50 0) 0 999 := hf50 _
          refine s_iast (g := (upd j13_A6 y_89.toNatClampNeg (f50 0))) (ws' := [(h, .inr (7, oM r i j)), ((r 50), .inl (cI, 22, .inl f50)), ((r 52), .inl (cI, 22, .inl f52)), ((r 53), .inl (cI, 22, .inl (upd f53 0 y_89))), ((r 54), .inl (cI, 1100, .inl (upd j13_A4 y_89.toNatClampNeg (f52 0)))), ((r 55), .inl (cI, 1100, .inl (upd j13_A5 y_89.toNatClampNeg x1))), ((r 56), .inl (cI, 1100, .inl (upd j13_A6 y_89.toNatClampNeg (f50 0)))), ((r 57), .inl (cI, 1100, .inl j13_A7))]) hx hb hK hP hD hS 6 0 rfl rfl (iR_vp f_89_2 (by decide +kernel)) rfl rfl dX7_writesDown_128 (fun H locs hP hD hS => ?_)
          refine lv_aload_n hx hb dX7_writesDown_129 rfl (lv_at hl 1 rfl) ?_
          refine k_get (D := (dC, dI)) (ci := 7) (v := .ref (r 57)) (C := RX7) (T := TX7) (N := 92) hx hb hts hinX7 hown hK hP 0 rfl rfl 57 (by decide) w_6 rfl rfl dX7_writesDown_130 ?_
          refine lv_iload_n hx hb dX7_writesDown_133 rfl (lv_at hl 0 rfl) ?_
          refine lv_iload_n hx hb dX7_writesDown_134 rfl (lv_at hl 3 rfl) ?_
          have J_143p90 : ∀ (j143p90_S0 : Int32) (hj143p90_S0 : iR j143p90_S0 0 1) (H : Heap) (locs : List Loc) (ls : Array Slot), va_P (dC, dI) vwCl [(h, .inr (7, oM r i j)), ((r 50), .inl (cI, 22, .inl f50)), ((r 52), .inl (cI, 22, .inl f52)), ((r 53), .inl (cI, 22, .inl (upd f53 0 y_89))), ((r 54), .inl (cI, 1100, .inl (upd j13_A4 y_89.toNatClampNeg (f52 0)))), ((r 55), .inl (cI, 1100, .inl (upd j13_A5 y_89.toNatClampNeg x1))), ((r 56), .inl (cI, 1100, .inl (upd j13_A6 y_89.toNatClampNeg (f50 0)))), ((r 57), .inl (cI, 1100, .inl j13_A7))] H → va_D A [(h, .inr (7, oM r i j)), ((r 50), .inl (cI, 22, .inl f50)), ((r 52), .inl (cI, 22, .inl f52)), ((r 53), .inl (cI, 22, .inl (upd f53 0 y_89))), ((r 54), .inl (cI, 1100, .inl (upd j13_A4 y_89.toNatClampNeg (f52 0)))), ((r 55), .inl (cI, 1100, .inl (upd j13_A5 y_89.toNatClampNeg x1))), ((r 56), .inl (cI, 1100, .inl (upd j13_A6 y_89.toNatClampNeg (f50 0)))), ((r 57), .inl (cI, 1100, .inl j13_A7))] → va_S A s.heap H locs → lv_has ls 4 [(0, .ref h)] → W p l e ({ frames := 1, cells := 0, slots := 0, locals := 40 }) s m args below meth c H locs 0 0 (MQ below (va_Qv (fun (u9 : SU) => (aR (u9.2.2.1 0) 0 50)) (fun u => k_B (dC, dI) vwCl (tyy cI cJ cZ cM) A ((fun (u9 : SU) => [(h, .inr (7, oM r i j)), ((r 50), .inl (cI, 22, .inl f50)), ((r 52), .inl (cI, 22, .inl f52)), ((r 53), .inl (cI, 22, .inl (u9.2.2.1 0))), ((r 54), .inl (cI, 1100, .inl (u9.2.2.1 1))), ((r 55), .inl (cI, 1100, .inl (u9.2.2.1 2))), ((r 56), .inl (cI, 1100, .inl (u9.2.2.1 3))), ((r 57), .inl (cI, 1100, .inl (u9.2.2.1 4)))]) u)) A) args s 0 0 A) (F0 m 143 ls [.int j143p90_S0, .int y_89, .ref (r 57)]) := by
            intro j143p90_S0 hj143p90_S0 H locs ls hP hD hS hl
            refine s_iast (g := (upd j13_A7 y_89.toNatClampNeg j143p90_S0)) (ws' := [(h, .inr (7, oM r i j)), ((r 50), .inl (cI, 22, .inl f50)), ((r 52), .inl (cI, 22, .inl f52)), ((r 53), .inl (cI, 22, .inl (upd f53 0 y_89))), ((r 54), .inl (cI, 1100, .inl (upd j13_A4 y_89.toNatClampNeg (f52 0)))), ((r 55), .inl (cI, 1100, .inl (upd j13_A5 y_89.toNatClampNeg x1))), ((r 56), .inl (cI, 1100, .inl (upd j13_A6 y_89.toNatClampNeg (f50 0)))), ((r 57), .inl (cI, 1100, .inl (upd j13_A7 y_89.toNatClampNeg j143p90_S0)))]) hx hb hK hP hD hS 7 0 rfl rfl (iR_vp f_89_2 (by decide +kernel)) rfl rfl dX7_writesDown_143 (fun H locs hP hD hS => ?_)
            refine lv_aload_n hx hb dX7_writesDown_144 rfl (lv_at hl 0 rfl) ?_
            refine k_get (D := (dC, dI)) (ci := 7) (v := .ref (r 53)) (C := RX7) (T := TX7) (N := 92) hx hb hts hinX7 hown hK hP 0 rfl rfl 53 (by decide) w_0 rfl rfl dX7_writesDown_145 ?_
            refine lv_iconst (v := 0) hx hb dX7_writesDown_148 (by decide +kernel) ?_
            refine lv_dup2_11 hx hb dX7_writesDown_149 rfl rfl ?_
            refine k_iald (v := ((upd f53 0 y_89) 0)) hx hb hK hP 3 0 0 rfl rfl rfl (Nat.le_of_ble_eq_true rfl) (Nat.le_of_ble_eq_true rfl) rfl dX7_writesDown_150 ?_
            refine k_int (v := y_89) rfl ?_
            refine lv_iconst (v := 1) hx hb dX7_writesDown_151 (by decide +kernel) ?_
            refine lv_iadd hx hb dX7_writesDown_152 ?_
            refine lv_topi (fun y_152p90 ey_152p90 => ?_)
            have f_152p90_1 : iR y_152p90 50 50 := iR_add ey_152p90 f_89_2 (iR_c (n := 1) (a := 1) (b := 1) (by decide +kernel) (by decide +kernel)) (by decide +kernel)
            refine k_iast (g := (upd (upd f53 0 y_89) 0 y_152p90)) (ws' := [(h, .inr (7, oM r i j)), ((r 50), .inl (cI, 22, .inl f50)), ((r 52), .inl (cI, 22, .inl f52)), ((r 53), .inl (cI, 22, .inl (upd (upd f53 0 y_89) 0 y_152p90))), ((r 54), .inl (cI, 1100, .inl (upd j13_A4 y_89.toNatClampNeg (f52 0)))), ((r 55), .inl (cI, 1100, .inl (upd j13_A5 y_89.toNatClampNeg x1))), ((r 56), .inl (cI, 1100, .inl (upd j13_A6 y_89.toNatClampNeg (f50 0)))), ((r 57), .inl (cI, 1100, .inl (upd j13_A7 y_89.toNatClampNeg j143p90_S0)))]) hx hb hK hP hD hS 3 0 0 rfl rfl rfl (Nat.le_of_ble_eq_true rfl) (Nat.le_of_ble_eq_true rfl) rfl rfl dX7_writesDown_153 (fun H locs hP hD hS => ?_)
            exact k_rv B hP hD hS dX7_writesDown_154 ((fun _ => 0), (fun _ => 0), (fun k9 => match k9 with | 0 => (upd (upd f53 0 y_89) 0 y_152p90) | 1 => (upd j13_A4 y_89.toNatClampNeg (f52 0)) | 2 => (upd j13_A5 y_89.toNatClampNeg x1) | 3 => (upd j13_A6 y_89.toNatClampNeg (f50 0)) | 4 => (upd j13_A7 y_89.toNatClampNeg j143p90_S0) | _ => (fun _ => 0)), (fun _ => (fun _ => 0)), (fun _ => 0)) [0, 1, 2, 3, 4, 5, 6, 7] rfl rfl (Nat.le_of_ble_eq_true rfl) (Nat.le_of_ble_eq_true rfl) (show aR (upd (upd f53 0 y_89) 0 y_152p90) 0 50 from (aR_upd _ (aR_upd _ hf53 (iR_w f_89_2 (by decide +kernel))) (iR_w f_152p90_1 (by decide +kernel))))
          refine lv_if_eq (tgt := 142) hx hb dX7_writesDown_135 (by decide) (fun c_135p90 => ?_) (fun c_135p90 => ?_)
          · have c_135p90 : x2 = 0 := c_135p90
            have f_142p90_4 : iR x2 0 0 := iR_eqL c_135p90 hx2 (iR_c (n := 0) (a := 0) (b := 0) (by decide +kernel) (by decide +kernel)) (by decide +kernel)
            refine lv_iconst (v := 0) hx hb dX7_writesDown_142 (by decide +kernel) ?_
            exact J_143p90 0 (iR_c (n := 0) (a := 0) (b := 1) (by decide +kernel) (by decide +kernel)) H locs ls hP hD hS (lv_sub hl [1] rfl)
          · have c_135p90 : ¬ x2 = 0 := c_135p90
            have f_138p90_4 : iR x2 1 1 := iR_neL c_135p90 hx2 (iR_c (n := 0) (a := 0) (b := 0) (by decide +kernel) (by decide +kernel)) (by decide +kernel)
            refine lv_iconst (v := 1) hx hb dX7_writesDown_138 (by decide +kernel) ?_
            refine lv_goto (tgt := 143) hx hb dX7_writesDown_139 (by decide) ?_
            exact J_143p90 1 (iR_c (n := 1) (a := 0) (b := 1) (by decide +kernel) (by decide +kernel)) H locs ls hP hD hS (lv_sub hl [1] rfl)
        · have c_16 : j13_L3 < 49 := i_nle c_16
          have f_19_1 : iR j13_L3 0 48 := iR_ltL c_16 hj13_L3 (iR_c (n := 49) (a := 49) (b := 49) (by decide +kernel) (by decide +kernel)) (by decide +kernel)
          refine lv_aload_n hx hb dX7_writesDown_19 rfl (lv_at hl 0 rfl) ?_
          refine k_get (D := (dC, dI)) (ci := 7) (v := .ref (r 54)) (C := RX7) (T := TX7) (N := 92) hx hb hts hinX7 hown hK hP 0 rfl rfl 54 (by decide) w_1 rfl rfl dX7_writesDown_20 ?_
          refine lv_iload_n hx hb dX7_writesDown_23 rfl (lv_at hl 3 rfl) ?_
          refine lv_aload_n hx hb dX7_writesDown_24 rfl (lv_at hl 0 rfl) ?_
          refine k_get (D := (dC, dI)) (ci := 7) (v := .ref (r 54)) (C := RX7) (T := TX7) (N := 92) hx hb hts hinX7 hown hK hP 0 rfl rfl 54 (by decide) w_1 rfl rfl dX7_writesDown_25 ?_
          refine lv_iload_n hx hb dX7_writesDown_28 rfl (lv_at hl 3 rfl) ?_
          refine lv_iconst (v := 1) hx hb dX7_writesDown_29 (by decide +kernel) ?_
          refine lv_iadd hx hb dX7_writesDown_30 ?_
          refine lv_topi (fun y_30 ey_30 => ?_)
          have f_30_2 : iR y_30 1 49 := iR_add ey_30 f_19_1 (iR_c (n := 1) (a := 1) (b := 1) (by decide +kernel) (by decide +kernel)) (by decide +kernel)
          refine va_iald hx hb hK hP 4 0 rfl rfl (iR_vp f_30_2 (by decide +kernel)) dX7_writesDown_31 ?_
          refine s_iast (g := (upd j13_A4 j13_L3.toNatClampNeg (j13_A4 y_30.toNatClampNeg))) (ws' := [(h, .inr (7, oM r i j)), ((r 50), .inl (cI, 22, .inl f50)), ((r 52), .inl (cI, 22, .inl f52)), ((r 53), .inl (cI, 22, .inl f53)), ((r 54), .inl (cI, 1100, .inl (upd j13_A4 j13_L3.toNatClampNeg (j13_A4 y_30.toNatClampNeg)))), ((r 55), .inl (cI, 1100, .inl j13_A5)), ((r 56), .inl (cI, 1100, .inl j13_A6)), ((r 57), .inl (cI, 1100, .inl j13_A7))]) hx hb hK hP hD hS 4 0 rfl rfl (iR_vp f_19_1 (by decide +kernel)) rfl rfl dX7_writesDown_32 (fun H locs hP hD hS => ?_)
          refine lv_aload_n hx hb dX7_writesDown_33 rfl (lv_at hl 0 rfl) ?_
          refine k_get (D := (dC, dI)) (ci := 7) (v := .ref (r 55)) (C := RX7) (T := TX7) (N := 92) hx hb hts hinX7 hown hK hP 0 rfl rfl 55 (by decide) w_3 rfl rfl dX7_writesDown_34 ?_
          refine lv_iload_n hx hb dX7_writesDown_37 rfl (lv_at hl 3 rfl) ?_
          refine lv_aload_n hx hb dX7_writesDown_38 rfl (lv_at hl 0 rfl) ?_
          refine k_get (D := (dC, dI)) (ci := 7) (v := .ref (r 55)) (C := RX7) (T := TX7) (N := 92) hx hb hts hinX7 hown hK hP 0 rfl rfl 55 (by decide) w_3 rfl rfl dX7_writesDown_39 ?_
          refine lv_iload_n hx hb dX7_writesDown_42 rfl (lv_at hl 3 rfl) ?_
          refine lv_iconst (v := 1) hx hb dX7_writesDown_43 (by decide +kernel) ?_
          refine lv_iadd hx hb dX7_writesDown_44 ?_
          refine lv_topi (fun y_44 ey_44 => ?_)
          have f_44_3 : iR y_44 1 49 := iR_add ey_44 f_19_1 (iR_c (n := 1) (a := 1) (b := 1) (by decide +kernel) (by decide +kernel)) (by decide +kernel)
          refine va_iald hx hb hK hP 5 0 rfl rfl (iR_vp f_44_3 (by decide +kernel)) dX7_writesDown_45 ?_
          refine s_iast (g := (upd j13_A5 j13_L3.toNatClampNeg (j13_A5 y_44.toNatClampNeg))) (ws' := [(h, .inr (7, oM r i j)), ((r 50), .inl (cI, 22, .inl f50)), ((r 52), .inl (cI, 22, .inl f52)), ((r 53), .inl (cI, 22, .inl f53)), ((r 54), .inl (cI, 1100, .inl (upd j13_A4 j13_L3.toNatClampNeg (j13_A4 y_30.toNatClampNeg)))), ((r 55), .inl (cI, 1100, .inl (upd j13_A5 j13_L3.toNatClampNeg (j13_A5 y_44.toNatClampNeg)))), ((r 56), .inl (cI, 1100, .inl j13_A6)), ((r 57), .inl (cI, 1100, .inl j13_A7))]) hx hb hK hP hD hS 5 0 rfl rfl (iR_vp f_19_1 (by decide +kernel)) rfl rfl dX7_writesDown_46 (fun H locs hP hD hS => ?_)
          refine lv_aload_n hx hb dX7_writesDown_47 rfl (lv_at hl 0 rfl) ?_
          refine k_get (D := (dC, dI)) (ci := 7) (v := .ref (r 56)) (C := RX7) (T := TX7) (N := 92) hx hb hts hinX7 hown hK hP 0 rfl rfl 56 (by decide) w_4 rfl rfl dX7_writesDown_48 ?_
          refine lv_iload_n hx hb dX7_writesDown_51 rfl (lv_at hl 3 rfl) ?_
          refine lv_aload_n hx hb dX7_writesDown_52 rfl (lv_at hl 0 rfl) ?_
          refine k_get (D := (dC, dI)) (ci := 7) (v := .ref (r 56)) (C := RX7) (T := TX7) (N := 92) hx hb hts hinX7 hown hK hP 0 rfl rfl 56 (by decide) w_4 rfl rfl dX7_writesDown_53 ?_
          refine lv_iload_n hx hb dX7_writesDown_56 rfl (lv_at hl 3 rfl) ?_
          refine lv_iconst (v := 1) hx hb dX7_writesDown_57 (by decide +kernel) ?_
          refine lv_iadd hx hb dX7_writesDown_58 ?_
          refine lv_topi (fun y_58 ey_58 => ?_)
          have f_58_4 : iR y_58 1 49 := iR_add ey_58 f_19_1 (iR_c (n := 1) (a := 1) (b := 1) (by decide +kernel) (by decide +kernel)) (by decide +kernel)
          refine va_iald hx hb hK hP 6 0 rfl rfl (iR_vp f_58_4 (by decide +kernel)) dX7_writesDown_59 ?_
          refine s_iast (g := (upd j13_A6 j13_L3.toNatClampNeg (j13_A6 y_58.toNatClampNeg))) (ws' := [(h, .inr (7, oM r i j)), ((r 50), .inl (cI, 22, .inl f50)), ((r 52), .inl (cI, 22, .inl f52)), ((r 53), .inl (cI, 22, .inl f53)), ((r 54), .inl (cI, 1100, .inl (upd j13_A4 j13_L3.toNatClampNeg (j13_A4 y_30.toNatClampNeg)))), ((r 55), .inl (cI, 1100, .inl (upd j13_A5 j13_L3.toNatClampNeg (j13_A5 y_44.toNatClampNeg)))), ((r 56), .inl (cI, 1100, .inl (upd j13_A6 j13_L3.toNatClampNeg (j13_A6 y_58.toNatClampNeg)))), ((r 57), .inl (cI, 1100, .inl j13_A7))]) hx hb hK hP hD hS 6 0 rfl rfl (iR_vp f_19_1 (by decide +kernel)) rfl rfl dX7_writesDown_60 (fun H locs hP hD hS => ?_)
          refine lv_aload_n hx hb dX7_writesDown_61 rfl (lv_at hl 0 rfl) ?_
          refine k_get (D := (dC, dI)) (ci := 7) (v := .ref (r 57)) (C := RX7) (T := TX7) (N := 92) hx hb hts hinX7 hown hK hP 0 rfl rfl 57 (by decide) w_6 rfl rfl dX7_writesDown_62 ?_
          refine lv_iload_n hx hb dX7_writesDown_65 rfl (lv_at hl 3 rfl) ?_
          refine lv_aload_n hx hb dX7_writesDown_66 rfl (lv_at hl 0 rfl) ?_
          refine k_get (D := (dC, dI)) (ci := 7) (v := .ref (r 57)) (C := RX7) (T := TX7) (N := 92) hx hb hts hinX7 hown hK hP 0 rfl rfl 57 (by decide) w_6 rfl rfl dX7_writesDown_67 ?_
          refine lv_iload_n hx hb dX7_writesDown_70 rfl (lv_at hl 3 rfl) ?_
          refine lv_iconst (v := 1) hx hb dX7_writesDown_71 (by decide +kernel) ?_
          refine lv_iadd hx hb dX7_writesDown_72 ?_
          refine lv_topi (fun y_72 ey_72 => ?_)
          have f_72_5 : iR y_72 1 49 := iR_add ey_72 f_19_1 (iR_c (n := 1) (a := 1) (b := 1) (by decide +kernel) (by decide +kernel)) (by decide +kernel)
          refine va_iald hx hb hK hP 7 0 rfl rfl (iR_vp f_72_5 (by decide +kernel)) dX7_writesDown_73 ?_
          refine s_iast (g := (upd j13_A7 j13_L3.toNatClampNeg (j13_A7 y_72.toNatClampNeg))) (ws' := [(h, .inr (7, oM r i j)), ((r 50), .inl (cI, 22, .inl f50)), ((r 52), .inl (cI, 22, .inl f52)), ((r 53), .inl (cI, 22, .inl f53)), ((r 54), .inl (cI, 1100, .inl (upd j13_A4 j13_L3.toNatClampNeg (j13_A4 y_30.toNatClampNeg)))), ((r 55), .inl (cI, 1100, .inl (upd j13_A5 j13_L3.toNatClampNeg (j13_A5 y_44.toNatClampNeg)))), ((r 56), .inl (cI, 1100, .inl (upd j13_A6 j13_L3.toNatClampNeg (j13_A6 y_58.toNatClampNeg)))), ((r 57), .inl (cI, 1100, .inl (upd j13_A7 j13_L3.toNatClampNeg (j13_A7 y_72.toNatClampNeg))))]) hx hb hK hP hD hS 7 0 rfl rfl (iR_vp f_19_1 (by decide +kernel)) rfl rfl dX7_writesDown_74 (fun H locs hP hD hS => ?_)
          obtain ⟨y_75, ey_75⟩ : ∃ y : Int32, y = j13_L3 + 1 := ⟨_, rfl⟩
          refine lv_iinc (v := y_75) (lv' := [(3, .int y_75), (0, .ref h), (1, .int x1), (2, .int x2)]) hx hb dX7_writesDown_75 hl (k := 3) rfl ey_75.symm (by decide) rfl (fun ls hl => ?_)
          have f_75_6 : iR y_75 1 49 := iR_add ey_75 f_19_1 (iR_c (n := 1) (a := 1) (b := 1) (by decide +kernel) (by decide +kernel)) (by decide +kernel)
          refine lv_goto (tgt := 13) hx hb dX7_writesDown_78 (by decide) ?_
          exact ih_13 (upd j13_A4 j13_L3.toNatClampNeg (j13_A4 y_30.toNatClampNeg)) (upd j13_A5 j13_L3.toNatClampNeg (j13_A5 y_44.toNatClampNeg)) (upd j13_A6 j13_L3.toNatClampNeg (j13_A6 y_58.toNatClampNeg)) (upd j13_A7 j13_L3.toNatClampNeg (j13_A7 y_72.toNatClampNeg)) y_75 (iR_w f_75_6 (by decide +kernel)) (m_up (B := 49) hm_13 ey_75 f_19_1 (by decide +kernel)) H locs ls hP hD hS (lv_sub hl [1, 2, 3, 0] rfl)
    refine lv_istore_n (lv' := [(3, .int 0), (0, .ref h), (1, .int x1), (2, .int x2)]) hx hb dX7_writesDown_12 rfl hl (by decide) rfl (fun ls hl => ?_)
    exact J_13 _ f54 f55 f56 f57 0 (iR_c (n := 0) (a := 0) (b := 49) (by decide +kernel) (by decide +kernel)) (Nat.lt_succ_self _) H locs ls hP hD hS (lv_sub hl [1, 2, 3, 0] rfl)
