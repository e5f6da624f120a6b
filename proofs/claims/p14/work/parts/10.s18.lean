set_option maxHeartbeats 8000000 in
set_option maxRecDepth 100000 in
theorem s_X7_dayEnds_v0 (l : Launch) (dC : Nat → ClassId) (dI : Nat → Nat → Nat) (cI cJ cZ cM : ClassId) (h : Nat) (r : Nat → Nat) (i : Nat → Int32) (j : Nat → Int64) (x1 : Int32) (f14 : Nat → Int32) (f17 : Nat → Int32) (f31 : Nat → Int32) (f49 : Nat → Int32) (f50 : Nat → Int32) (f51 : Nat → Int32) (f52 : Nat → Int32) (hx1 : iR x1 0 21) (hI : mR i) (hf14 : aR f14 0 10) (hf17 : aR f17 0 1) (hf31 : aR f31 0 999) (hf49 : aR f49 0 1023) (hf50 : aR f50 0 999) : k_Mv l yX7_dayEnds wsX7_dayEnds ({ frames := 2, cells := 0, slots := 0, locals := 62 }) (dC, dI) vwCl (tyy cI cJ cZ cM) [(h, .inr (7, oM r i j)), ((r 14), .inl (cI, 2, .inl f14)), ((r 17), .inl (cI, 20, .inl f17)), ((r 31), .inl (cI, 2, .inl f31)), ((r 49), .inl (cI, 22, .inl f49)), ((r 50), .inl (cI, 22, .inl f50)), ((r 51), .inl (cI, 22, .inl f51)), ((r 52), .inl (cI, 22, .inl f52))] [.ref h, .int x1] 0 0 (fun (u9 : SU) => [(h, .inr (7, oM r i j)), ((r 14), .inl (cI, 2, .inl f14)), ((r 17), .inl (cI, 20, .inl f17)), ((r 31), .inl (cI, 2, .inl f31)), ((r 49), .inl (cI, 22, .inl (u9.2.2.1 0))), ((r 50), .inl (cI, 22, .inl (u9.2.2.1 1))), ((r 51), .inl (cI, 22, .inl (upd f51 x1.toNatClampNeg 0))), ((r 52), .inl (cI, 22, .inl (u9.2.2.1 2)))]) (fun (u9 : SU) => (aR (u9.2.2.1 0) 0 1023) ∧ (aR (u9.2.2.1 1) 0 999)) := by
  refine fun sz => k_enter (cc := cX7_dayEnds) (maxL := 2) (ret := none) (Qc := fun A => va_Qv (fun (u9 : SU) => (aR (u9.2.2.1 0) 0 1023) ∧ (aR (u9.2.2.1 1) 0 999)) (fun u => k_B (dC, dI) vwCl (tyy cI cJ cZ cM) A ((fun (u9 : SU) => [(h, .inr (7, oM r i j)), ((r 14), .inl (cI, 2, .inl f14)), ((r 17), .inl (cI, 20, .inl f17)), ((r 31), .inl (cI, 2, .inl f31)), ((r 49), .inl (cI, 22, .inl (u9.2.2.1 0))), ((r 50), .inl (cI, 22, .inl (u9.2.2.1 1))), ((r 51), .inl (cI, 22, .inl (upd f51 x1.toNatClampNeg 0))), ((r 52), .inl (cI, 22, .inl (u9.2.2.1 2)))]) u)) A) sz (by decide +kernel) rfl (Nat.le_of_ble_eq_true rfl) (fun p e s m args below meth c A ls H locs B hP hD hS hl => ?_)
  obtain ⟨hx, hb, hml, hown, hts, hr, hlk, hnm, hK, hA, hN, hC⟩ := id B
  have hown : s.vm.findClass RX7 = some m.cls := hown
  have hl : lv_has ls 2 [(0, .ref h), (1, .int x1)] := hl
  have w_0 : (Cond.fieldLink RX7 162 "WishSeaModel" "hadOf" "[I").before args s = true := hts _ (List.mem_of_getElem? (i := 1) rfl)
  have w_1 : (Cond.fieldLink RX7 165 "WishSeaModel" "seaOf" "[I").before args s = true := hts _ (List.mem_of_getElem? (i := 2) rfl)
  have w_2 : (Cond.fieldLink RX7 105 "WishSeaModel" "calming" "[I").before args s = true := hts _ (List.mem_of_getElem? (i := 3) rfl)
  have w_3 : (Cond.fieldLink RX7 51 "WishSeaModel" "bank" "I").before args s = true := hts _ (List.mem_of_getElem? (i := 4) rfl)
  have w_4 : (Cond.fieldLink RX7 168 "WishSeaModel" "saidOf" "[I").before args s = true := hts _ (List.mem_of_getElem? (i := 5) rfl)
  have w_5 : (Cond.fieldLink RX7 171 "WishSeaModel" "dayOf" "[I").before args s = true := hts _ (List.mem_of_getElem? (i := 6) rfl)
  have hinX7 : ∀ w ∈ u_ws RX7 TX7 92, w ∈ wsX7_dayEnds := fun _ h => List.mem_cons_of_mem _ (List.mem_append_right _ h)
  refine lv_aload_n hx hb dX7_dayEnds_0 rfl (lv_at hl 0 rfl) ?_
  refine k_get (D := (dC, dI)) (ci := 7) (v := .ref (r 49)) (C := RX7) (T := TX7) (N := 92) hx hb hts hinX7 hown hK hP 0 rfl rfl 49 (by decide) w_0 rfl rfl dX7_dayEnds_1 ?_
  refine lv_iload_n hx hb dX7_dayEnds_4 rfl (lv_at hl 1 rfl) ?_
  refine lv_dup2_11 hx hb dX7_dayEnds_5 rfl rfl ?_
  refine va_iald hx hb hK hP 4 0 rfl rfl (iR_vp hx1 (by decide +kernel)) dX7_dayEnds_6 ?_
  have f_6_1 : iR (f49 x1.toNatClampNeg) 0 1023 := hf49 _
  refine lv_aload_n hx hb dX7_dayEnds_7 rfl (lv_at hl 0 rfl) ?_
  refine k_ci (wc := [(h, .inr (7, oM r i j)), ((r 14), .inl (cI, 2, .inl f14)), ((r 17), .inl (cI, 20, .inl f17))]) (wr := [((r 31), .inl (cI, 2, .inl f31)), ((r 49), .inl (cI, 22, .inl f49)), ((r 50), .inl (cI, 22, .inl f50)), ((r 51), .inl (cI, 22, .inl f51)), ((r 52), .inl (cI, 22, .inl f52))]) (fun hPc hDc hFc => va_runV (As := []) (rest := [.int (f49 x1.toNatClampNeg), .int x1, .ref (r 49)]) ⟨hx, hb, hml, hown, hts⟩ (s_X7_briefOnes_v1 l dC dI cI cJ cZ cM h r i j f14 f17 hI hf14 hf17 H.size) (cwV 0 hts gX7_dayEnds_X7_briefOnes rfl rfl rfl (by decide +kernel) ⟨(Nat.le_of_ble_eq_true rfl), (Nat.le_of_ble_eq_true rfl)⟩) (k_pV hPc hDc hK hN hC hS hFc hP (q0 := 0) (ci := 7) rfl rfl) rfl rfl hl.1 rfl (lv_room (Nat.le_of_ble_eq_true rfl)) dX7_dayEnds_8 ⟨(Nat.le_of_ble_eq_true rfl), (Nat.le_of_ble_eq_true rfl)⟩) hP hD hS hA [0, 1, 2] [3, 4, 5, 6, 7] rfl rfl rfl rfl (by decide) (fun _ => rfl) 0 0 rfl rfl (fun r_8 u_8 H locs hw hP hD hS => ?_)
  have g_8_0 := hw
  have hP : va_P (dC, dI) vwCl [((r 31), .inl (cI, 2, .inl f31)), ((r 49), .inl (cI, 22, .inl f49)), ((r 50), .inl (cI, 22, .inl f50)), ((r 51), .inl (cI, 22, .inl f51)), ((r 52), .inl (cI, 22, .inl f52)), (h, .inr (7, oM r i j)), ((r 14), .inl (cI, 2, .inl f14)), ((r 17), .inl (cI, 20, .inl f17))] H := hP
  have hD : va_D A [((r 31), .inl (cI, 2, .inl f31)), ((r 49), .inl (cI, 22, .inl f49)), ((r 50), .inl (cI, 22, .inl f50)), ((r 51), .inl (cI, 22, .inl f51)), ((r 52), .inl (cI, 22, .inl f52)), (h, .inr (7, oM r i j)), ((r 14), .inl (cI, 2, .inl f14)), ((r 17), .inl (cI, 20, .inl f17))] := hD
  refine lv_iconst (v := (-1)) hx hb dX7_dayEnds_11 (by decide +kernel) ?_
  refine lv_ixor hx hb dX7_dayEnds_12 ?_
  refine lv_topi (fun y_12 ey_12 => ?_)
  refine lv_iand hx hb dX7_dayEnds_13 ?_
  refine lv_topi (fun y_13 ey_13 => ?_)
  have f_13_2 : iR y_13 0 1023 := iR_andL ey_13 f_6_1 (by decide +kernel)
  refine s_iast (g := (upd f49 x1.toNatClampNeg y_13)) (ws' := [((r 31), .inl (cI, 2, .inl f31)), ((r 49), .inl (cI, 22, .inl (upd f49 x1.toNatClampNeg y_13))), ((r 50), .inl (cI, 22, .inl f50)), ((r 51), .inl (cI, 22, .inl f51)), ((r 52), .inl (cI, 22, .inl f52)), (h, .inr (7, oM r i j)), ((r 14), .inl (cI, 2, .inl f14)), ((r 17), .inl (cI, 20, .inl f17))]) hx hb hK hP hD hS 1 0 rfl rfl (iR_vp hx1 (by decide +kernel)) rfl rfl dX7_dayEnds_14 (fun H locs hP hD hS => ?_)
  refine lv_aload_n hx hb dX7_dayEnds_15 rfl (lv_at hl 0 rfl) ?_
  refine k_get (D := (dC, dI)) (ci := 7) (v := .ref (r 50)) (C := RX7) (T := TX7) (N := 92) hx hb hts hinX7 hown hK hP 5 rfl rfl 50 (by decide) w_1 rfl rfl dX7_dayEnds_16 ?_
  refine lv_iload_n hx hb dX7_dayEnds_19 rfl (lv_at hl 1 rfl) ?_
  refine lv_aload_n hx hb dX7_dayEnds_20 rfl (lv_at hl 0 rfl) ?_
  refine k_get (D := (dC, dI)) (ci := 7) (v := .ref (r 50)) (C := RX7) (T := TX7) (N := 92) hx hb hts hinX7 hown hK hP 5 rfl rfl 50 (by decide) w_1 rfl rfl dX7_dayEnds_21 ?_
  refine lv_iload_n hx hb dX7_dayEnds_24 rfl (lv_at hl 1 rfl) ?_
  refine va_iald hx hb hK hP 2 0 rfl rfl (iR_vp hx1 (by decide +kernel)) dX7_dayEnds_25 ?_
  have f_25_3 : iR (f50 x1.toNatClampNeg) 0 999 := hf50 _
  refine lv_aload_n hx hb dX7_dayEnds_26 rfl (lv_at hl 0 rfl) ?_
  refine k_get (D := (dC, dI)) (ci := 7) (v := .ref (r 31)) (C := RX7) (T := TX7) (N := 92) hx hb hts hinX7 hown hK hP 5 rfl rfl 31 (by decide) w_2 rfl rfl dX7_dayEnds_27 ?_
  refine lv_aload_n hx hb dX7_dayEnds_30 rfl (lv_at hl 0 rfl) ?_
  have f_31_4 : iR (i 13) 0 1 := hI 13
  refine k_get (D := (dC, dI)) (ci := 7) (v := .int (i 13)) (C := RX7) (T := TX7) (N := 92) hx hb hts hinX7 hown hK hP 5 rfl rfl 13 (by decide) w_3 rfl rfl dX7_dayEnds_31 ?_
  refine va_iald hx hb hK hP 0 0 rfl rfl (iR_vp f_31_4 (by decide +kernel)) dX7_dayEnds_34 ?_
  have f_34_5 : iR (f31 (i 13).toNatClampNeg) 0 999 := hf31 _
  have J_58 : ∀ (j58_S0 : Int32) (hj58_S0 : iR j58_S0 0 999) (H : Heap) (locs : List Loc) (ls : Array Slot), va_P (dC, dI) vwCl [(h, .inr (7, oM r i j)), ((r 14), .inl (cI, 2, .inl f14)), ((r 17), .inl (cI, 20, .inl f17)), ((r 31), .inl (cI, 2, .inl f31)), ((r 49), .inl (cI, 22, .inl (upd f49 x1.toNatClampNeg y_13))), ((r 50), .inl (cI, 22, .inl f50)), ((r 51), .inl (cI, 22, .inl f51)), ((r 52), .inl (cI, 22, .inl f52))] H → va_D A [(h, .inr (7, oM r i j)), ((r 14), .inl (cI, 2, .inl f14)), ((r 17), .inl (cI, 20, .inl f17)), ((r 31), .inl (cI, 2, .inl f31)), ((r 49), .inl (cI, 22, .inl (upd f49 x1.toNatClampNeg y_13))), ((r 50), .inl (cI, 22, .inl f50)), ((r 51), .inl (cI, 22, .inl f51)), ((r 52), .inl (cI, 22, .inl f52))] → va_S A s.heap H locs → lv_has ls 2 [(0, .ref h), (1, .int x1)] → W p l e ({ frames := 2, cells := 0, slots := 0, locals := 62 }) s m args below meth c H locs 0 0 (MQ below (va_Qv (fun (u9 : SU) => (aR (u9.2.2.1 0) 0 1023) ∧ (aR (u9.2.2.1 1) 0 999)) (fun u => k_B (dC, dI) vwCl (tyy cI cJ cZ cM) A ((fun (u9 : SU) => [(h, .inr (7, oM r i j)), ((r 14), .inl (cI, 2, .inl f14)), ((r 17), .inl (cI, 20, .inl f17)), ((r 31), .inl (cI, 2, .inl f31)), ((r 49), .inl (cI, 22, .inl (u9.2.2.1 0))), ((r 50), .inl (cI, 22, .inl (u9.2.2.1 1))), ((r 51), .inl (cI, 22, .inl (upd f51 x1.toNatClampNeg 0))), ((r 52), .inl (cI, 22, .inl (u9.2.2.1 2)))]) u)) A) args s 0 0 A) (F0 m 58 ls [.int j58_S0, .int x1, .ref (r 50)]) := by
    intro j58_S0 hj58_S0 H locs ls hP hD hS hl
    refine s_iast (g := (upd f50 x1.toNatClampNeg j58_S0)) (ws' := [(h, .inr (7, oM r i j)), ((r 14), .inl (cI, 2, .inl f14)), ((r 17), .inl (cI, 20, .inl f17)), ((r 31), .inl (cI, 2, .inl f31)), ((r 49), .inl (cI, 22, .inl (upd f49 x1.toNatClampNeg y_13))), ((r 50), .inl (cI, 22, .inl (upd f50 x1.toNatClampNeg j58_S0))), ((r 51), .inl (cI, 22, .inl f51)), ((r 52), .inl (cI, 22, .inl f52))]) hx hb hK hP hD hS 5 0 rfl rfl (iR_vp hx1 (by decide +kernel)) rfl rfl dX7_dayEnds_58 (fun H locs hP hD hS => ?_)
    refine lv_aload_n hx hb dX7_dayEnds_59 rfl (lv_at hl 0 rfl) ?_
    refine k_get (D := (dC, dI)) (ci := 7) (v := .ref (r 51)) (C := RX7) (T := TX7) (N := 92) hx hb hts hinX7 hown hK hP 0 rfl rfl 51 (by decide) w_4 rfl rfl dX7_dayEnds_60 ?_
    refine lv_iload_n hx hb dX7_dayEnds_63 rfl (lv_at hl 1 rfl) ?_
    refine lv_iconst (v := 0) hx hb dX7_dayEnds_64 (by decide +kernel) ?_
    refine s_iast (g := (upd f51 x1.toNatClampNeg 0)) (ws' := [(h, .inr (7, oM r i j)), ((r 14), .inl (cI, 2, .inl f14)), ((r 17), .inl (cI, 20, .inl f17)), ((r 31), .inl (cI, 2, .inl f31)), ((r 49), .inl (cI, 22, .inl (upd f49 x1.toNatClampNeg y_13))), ((r 50), .inl (cI, 22, .inl (upd f50 x1.toNatClampNeg j58_S0))), ((r 51), .inl (cI, 22, .inl (upd f51 x1.toNatClampNeg 0))), ((r 52), .inl (cI, 22, .inl f52))]) hx hb hK hP hD hS 6 0 rfl rfl (iR_vp hx1 (by decide +kernel)) rfl rfl dX7_dayEnds_65 (fun H locs hP hD hS => ?_)
    refine lv_aload_n hx hb dX7_dayEnds_66 rfl (lv_at hl 0 rfl) ?_
    refine k_get (D := (dC, dI)) (ci := 7) (v := .ref (r 52)) (C := RX7) (T := TX7) (N := 92) hx hb hts hinX7 hown hK hP 0 rfl rfl 52 (by decide) w_5 rfl rfl dX7_dayEnds_67 ?_
    refine lv_iload_n hx hb dX7_dayEnds_70 rfl (lv_at hl 1 rfl) ?_
    refine lv_dup2_11 hx hb dX7_dayEnds_71 rfl rfl ?_
    refine va_iald hx hb hK hP 7 0 rfl rfl (iR_vp hx1 (by decide +kernel)) dX7_dayEnds_72 ?_
    refine lv_iconst (v := 1) hx hb dX7_dayEnds_73 (by decide +kernel) ?_
    refine lv_iadd hx hb dX7_dayEnds_74 ?_
    refine lv_topi (fun y_74 ey_74 => ?_)
    refine s_iast (g := (upd f52 x1.toNatClampNeg y_74)) (ws' := [(h, .inr (7, oM r i j)), ((r 14), .inl (cI, 2, .inl f14)), ((r 17), .inl (cI, 20, .inl f17)), ((r 31), .inl (cI, 2, .inl f31)), ((r 49), .inl (cI, 22, .inl (upd f49 x1.toNatClampNeg y_13))), ((r 50), .inl (cI, 22, .inl (upd f50 x1.toNatClampNeg j58_S0))), ((r 51), .inl (cI, 22, .inl (upd f51 x1.toNatClampNeg 0))), ((r 52), .inl (cI, 22, .inl (upd f52 x1.toNatClampNeg y_74)))]) hx hb hK hP hD hS 7 0 rfl rfl (iR_vp hx1 (by decide +kernel)) rfl rfl dX7_dayEnds_75 (fun H locs hP hD hS => ?_)
    exact k_rv B hP hD hS dX7_dayEnds_76 ((fun _ => 0), (fun _ => 0), (fun k9 => match k9 with | 0 => (upd f49 x1.toNatClampNeg y_13) | 1 => (upd f50 x1.toNatClampNeg j58_S0) | 2 => (upd f52 x1.toNatClampNeg y_74) | _ => (fun _ => 0)), (fun _ => (fun _ => 0)), (fun _ => 0)) [0, 1, 2, 3, 4, 5, 6, 7] rfl rfl (Nat.le_of_ble_eq_true rfl) (Nat.le_of_ble_eq_true rfl) ⟨(show aR (upd f49 x1.toNatClampNeg y_13) 0 1023 from (aR_upd _ hf49 f_13_2)), (show aR (upd f50 x1.toNatClampNeg j58_S0) 0 999 from (aR_upd _ hf50 hj58_S0))⟩
  refine lv_icmp_ge (tgt := 42) hx hb dX7_dayEnds_35 (by decide) (fun c_35 => ?_) (fun c_35 => ?_)
  · have c_35 : (f31 (i 13).toNatClampNeg) ≤ (f50 x1.toNatClampNeg) := c_35
    refine lv_aload_n hx hb dX7_dayEnds_42 rfl (lv_at hl 0 rfl) ?_
    refine k_get (D := (dC, dI)) (ci := 7) (v := .ref (r 50)) (C := RX7) (T := TX7) (N := 92) hx hb hts hinX7 hown hK hP 5 rfl rfl 50 (by decide) w_1 rfl rfl dX7_dayEnds_43 ?_
    refine lv_iload_n hx hb dX7_dayEnds_46 rfl (lv_at hl 1 rfl) ?_
    refine va_iald hx hb hK hP 2 0 rfl rfl (iR_vp hx1 (by decide +kernel)) dX7_dayEnds_47 ?_
    refine lv_aload_n hx hb dX7_dayEnds_48 rfl (lv_at hl 0 rfl) ?_
    refine k_get (D := (dC, dI)) (ci := 7) (v := .ref (r 31)) (C := RX7) (T := TX7) (N := 92) hx hb hts hinX7 hown hK hP 5 rfl rfl 31 (by decide) w_2 rfl rfl dX7_dayEnds_49 ?_
    refine lv_aload_n hx hb dX7_dayEnds_52 rfl (lv_at hl 0 rfl) ?_
    refine k_get (D := (dC, dI)) (ci := 7) (v := .int (i 13)) (C := RX7) (T := TX7) (N := 92) hx hb hts hinX7 hown hK hP 5 rfl rfl 13 (by decide) w_3 rfl rfl dX7_dayEnds_53 ?_
    refine va_iald hx hb hK hP 0 0 rfl rfl (iR_vp f_31_4 (by decide +kernel)) dX7_dayEnds_56 ?_
    refine lv_isub hx hb dX7_dayEnds_57 ?_
    refine lv_topi (fun y_57 ey_57 => ?_)
    have f_57_6 : iR y_57 0 999 := iR_subge ey_57 c_35 f_25_3 f_34_5 (by decide +kernel)
    exact J_58 y_57 f_57_6 H locs ls (hP.sub [5, 6, 7, 0, 1, 2, 3, 4] rfl) (hD.sub [5, 6, 7, 0, 1, 2, 3, 4] (by decide +kernel) rfl) hS (lv_sub hl [0, 1] rfl)
  · have c_35 : (f50 x1.toNatClampNeg) < (f31 (i 13).toNatClampNeg) := i_nle c_35
    have f_38_6 : iR (f50 x1.toNatClampNeg) 0 998 := iR_ltL c_35 f_25_3 f_34_5 (by decide +kernel)
    have f_38_7 : iR (f31 (i 13).toNatClampNeg) 1 999 := iR_ltR c_35 f_25_3 f_34_5 (by decide +kernel)
    refine lv_iconst (v := 0) hx hb dX7_dayEnds_38 (by decide +kernel) ?_
    refine lv_goto (tgt := 58) hx hb dX7_dayEnds_39 (by decide) ?_
    exact J_58 0 (iR_c (n := 0) (a := 0) (b := 999) (by decide +kernel) (by decide +kernel)) H locs ls (hP.sub [5, 6, 7, 0, 1, 2, 3, 4] rfl) (hD.sub [5, 6, 7, 0, 1, 2, 3, 4] (by decide +kernel) rfl) hS (lv_sub hl [0, 1] rfl)
set_option maxHeartbeats 8000000 in
set_option maxRecDepth 100000 in
theorem s_X7_ring_v2 (l : Launch) (dC : Nat → ClassId) (dI : Nat → Nat → Nat) (cI cJ cZ cM : ClassId) (h : Nat) (r : Nat → Nat) (i : Nat → Int32) (j : Nat → Int64) (x1 : Int32) (hx1 : iR x1 0 20) (hI : mR i) : k_Mi l yX7_ring wsX7_ring ({ frames := 1, cells := 0, slots := 0, locals := 40 }) (dC, dI) vwCl (tyy cI cJ cZ cM) [(h, .inr (7, oM r i j))] [.ref h, .int x1] 0 0 (fun (u9 : Unit) => [(h, .inr (7, oM r i j))]) (fun (r9 : Int32) (u9 : Unit) => (iR r9 2 21)) := by
  refine fun sz => k_enter (cc := cX7_ring) (maxL := 2) (ret := some (.int)) (Qc := fun A => va_Qi (fun (r9 : Int32) (u9 : Unit) => (iR r9 2 21)) (fun u => k_B (dC, dI) vwCl (tyy cI cJ cZ cM) A ((fun (u9 : Unit) => [(h, .inr (7, oM r i j))]) u)) A) sz (by decide +kernel) rfl (Nat.le_of_ble_eq_true rfl) (fun p e s m args below meth c A ls H locs B hP hD hS hl => ?_)
  obtain ⟨hx, hb, hml, hown, hts, hr, hlk, hnm, hK, hA, hN, hC⟩ := id B
  have hown : s.vm.findClass RX7 = some m.cls := hown
  have hl : lv_has ls 2 [(0, .ref h), (1, .int x1)] := hl
  have w_0 : (Cond.fieldLink RX7 189 "WishSeaModel" "undoFirst" "I").before args s = true := hts _ (List.mem_of_getElem? (i := 1) rfl)
  have hinX7 : ∀ w ∈ u_ws RX7 TX7 92, w ∈ wsX7_ring := fun _ h => List.mem_cons_of_mem _ (List.mem_append_right _ h)
  refine lv_iconst (v := 2) hx hb dX7_ring_0 (by decide +kernel) ?_
  refine lv_aload_n hx hb dX7_ring_1 rfl (lv_at hl 0 rfl) ?_
  have f_2_1 : iR (i 58) 0 19 := hI 58
  refine k_get (D := (dC, dI)) (ci := 7) (v := .int (i 58)) (C := RX7) (T := TX7) (N := 92) hx hb hts hinX7 hown hK hP 0 rfl rfl 58 (by decide) w_0 rfl rfl dX7_ring_2 ?_
  refine lv_iload_n hx hb dX7_ring_5 rfl (lv_at hl 1 rfl) ?_
  refine lv_iadd hx hb dX7_ring_6 ?_
  refine lv_topi (fun y_6 ey_6 => ?_)
  have f_6_2 : iR y_6 0 39 := iR_add ey_6 f_2_1 hx1 (by decide +kernel)
  refine lv_bipush (v := 20) hx hb dX7_ring_7 (by decide +kernel) ?_
  refine lv_irem hx hb dX7_ring_9 (i_nz (iR_c (n := 20) (a := 20) (b := 20) (by decide +kernel) (by decide +kernel)) (by decide +kernel)) ?_
  refine lv_topi (fun y_9 ey_9 => ?_)
  have f_9_3 : iR y_9 0 19 := iR_rem ey_9 f_6_2 (iR_c (n := 20) (a := 20) (b := 20) (by decide +kernel) (by decide +kernel)) (by decide +kernel)
  refine lv_iadd hx hb dX7_ring_10 ?_
  refine lv_topi (fun y_10 ey_10 => ?_)
  have f_10_4 : iR y_10 2 21 := iR_add ey_10 (iR_c (n := 2) (a := 2) (b := 2) (by decide +kernel) (by decide +kernel)) f_9_3 (by decide +kernel)
  exact k_ri B hP hD hS dX7_ring_11 () [0] rfl rfl rfl (Nat.le_of_ble_eq_true rfl) (Nat.le_of_ble_eq_true rfl) (show iR y_10 2 21 from f_10_4)
set_option maxHeartbeats 8000000 in
set_option maxRecDepth 100000 in
theorem s_X7_copies_v2 (l : Launch) (dC : Nat → ClassId) (dI : Nat → Nat → Nat) (cI cJ cZ cM : ClassId) (h : Nat) (r : Nat → Nat) (i : Nat → Int32) (j : Nat → Int64) (x1 : Int32) (x2 : Int32) (f49 : Nat → Int32) (f50 : Nat → Int32) (f51 : Nat → Int32) (f52 : Nat → Int32) (f53 : Nat → Int32) (f54 : Nat → Int32) (f55 : Nat → Int32) (f56 : Nat → Int32) (f57 : Nat → Int32) (hx1 : iR x1 0 21) (hx2 : iR x2 0 21) (hI : mR i) (hf49 : aR f49 0 1023) (hf50 : aR f50 0 999) (hf53 : aR f53 0 50) : k_Mv l yX7_copies wsX7_copies ({ frames := 1, cells := 0, slots := 0, locals := 40 }) (dC, dI) vwCl (tyy cI cJ cZ cM) [(h, .inr (7, oM r i j)), ((r 49), .inl (cI, 22, .inl f49)), ((r 50), .inl (cI, 22, .inl f50)), ((r 51), .inl (cI, 22, .inl f51)), ((r 52), .inl (cI, 22, .inl f52)), ((r 53), .inl (cI, 22, .inl f53)), ((r 54), .inl (cI, 1100, .inl f54)), ((r 55), .inl (cI, 1100, .inl f55)), ((r 56), .inl (cI, 1100, .inl f56)), ((r 57), .inl (cI, 1100, .inl f57))] [.ref h, .int x1, .int x2] 0 0 (fun (u9 : SU) => [(h, .inr (7, oM r i j)), ((r 49), .inl (cI, 22, .inl (upd f49 x1.toNatClampNeg (f49 x2.toNatClampNeg)))), ((r 50), .inl (cI, 22, .inl (upd f50 x1.toNatClampNeg (f50 x2.toNatClampNeg)))), ((r 51), .inl (cI, 22, .inl (upd f51 x1.toNatClampNeg (f51 x2.toNatClampNeg)))), ((r 52), .inl (cI, 22, .inl (upd f52 x1.toNatClampNeg (f52 x2.toNatClampNeg)))), ((r 53), .inl (cI, 22, .inl (upd f53 x1.toNatClampNeg (f53 x2.toNatClampNeg)))), ((r 54), .inl (cI, 1100, .inl (u9.2.2.1 0))), ((r 55), .inl (cI, 1100, .inl (u9.2.2.1 1))), ((r 56), .inl (cI, 1100, .inl (u9.2.2.1 2))), ((r 57), .inl (cI, 1100, .inl (u9.2.2.1 3)))]) (fun (u9 : SU) => True) := by
  refine fun sz => k_enter (cc := cX7_copies) (maxL := 4) (ret := none) (Qc := fun A => va_Qv (fun (u9 : SU) => True) (fun u => k_B (dC, dI) vwCl (tyy cI cJ cZ cM) A ((fun (u9 : SU) => [(h, .inr (7, oM r i j)), ((r 49), .inl (cI, 22, .inl (upd f49 x1.toNatClampNeg (f49 x2.toNatClampNeg)))), ((r 50), .inl (cI, 22, .inl (upd f50 x1.toNatClampNeg (f50 x2.toNatClampNeg)))), ((r 51), .inl (cI, 22, .inl (upd f51 x1.toNatClampNeg (f51 x2.toNatClampNeg)))), ((r 52), .inl (cI, 22, .inl (upd f52 x1.toNatClampNeg (f52 x2.toNatClampNeg)))), ((r 53), .inl (cI, 22, .inl (upd f53 x1.toNatClampNeg (f53 x2.toNatClampNeg)))), ((r 54), .inl (cI, 1100, .inl (u9.2.2.1 0))), ((r 55), .inl (cI, 1100, .inl (u9.2.2.1 1))), ((r 56), .inl (cI, 1100, .inl (u9.2.2.1 2))), ((r 57), .inl (cI, 1100, .inl (u9.2.2.1 3)))]) u)) A) sz (by decide +kernel) rfl (Nat.le_of_ble_eq_true rfl) (fun p e s m args below meth c A ls H locs B hP hD hS hl => ?_)
  obtain ⟨hx, hb, hml, hown, hts, hr, hlk, hnm, hK, hA, hN, hC⟩ := id B
  have hown : s.vm.findClass RX7 = some m.cls := hown
  have hl : lv_has ls 4 [(0, .ref h), (1, .int x1), (2, .int x2)] := hl
  have w_0 : (Cond.fieldLink RX7 162 "WishSeaModel" "hadOf" "[I").before args s = true := hts _ (List.mem_of_getElem? (i := 1) rfl)
  have w_1 : (Cond.fieldLink RX7 165 "WishSeaModel" "seaOf" "[I").before args s = true := hts _ (List.mem_of_getElem? (i := 2) rfl)
  have w_2 : (Cond.fieldLink RX7 168 "WishSeaModel" "saidOf" "[I").before args s = true := hts _ (List.mem_of_getElem? (i := 3) rfl)
  have w_3 : (Cond.fieldLink RX7 171 "WishSeaModel" "dayOf" "[I").before args s = true := hts _ (List.mem_of_getElem? (i := 4) rfl)
  have w_4 : (Cond.fieldLink RX7 174 "WishSeaModel" "keptMany" "[I").before args s = true := hts _ (List.mem_of_getElem? (i := 5) rfl)
  have w_5 : (Cond.fieldLink RX7 177 "WishSeaModel" "keptDay" "[I").before args s = true := hts _ (List.mem_of_getElem? (i := 6) rfl)
  have w_6 : (Cond.fieldLink RX7 180 "WishSeaModel" "keptWish" "[I").before args s = true := hts _ (List.mem_of_getElem? (i := 7) rfl)
  have w_7 : (Cond.fieldLink RX7 183 "WishSeaModel" "keptSea" "[I").before args s = true := hts _ (List.mem_of_getElem? (i := 8) rfl)
  have w_8 : (Cond.fieldLink RX7 186 "WishSeaModel" "keptFell" "[I").before args s = true := hts _ (List.mem_of_getElem? (i := 9) rfl)
  have hinX7 : ∀ w ∈ u_ws RX7 TX7 92, w ∈ wsX7_copies := fun _ h => List.mem_cons_of_mem _ (List.mem_append_right _ h)
  refine lv_aload_n hx hb dX7_copies_0 rfl (lv_at hl 0 rfl) ?_
  refine k_get (D := (dC, dI)) (ci := 7) (v := .ref (r 49)) (C := RX7) (T := TX7) (N := 92) hx hb hts hinX7 hown hK hP 0 rfl rfl 49 (by decide) w_0 rfl rfl dX7_copies_1 ?_
  refine lv_iload_n hx hb dX7_copies_4 rfl (lv_at hl 1 rfl) ?_
  refine lv_aload_n hx hb dX7_copies_5 rfl (lv_at hl 0 rfl) ?_
  refine k_get (D := (dC, dI)) (ci := 7) (v := .ref (r 49)) (C := RX7) (T := TX7) (N := 92) hx hb hts hinX7 hown hK hP 0 rfl rfl 49 (by decide) w_0 rfl rfl dX7_copies_6 ?_
  refine lv_iload_n hx hb dX7_copies_9 rfl (lv_at hl 2 rfl) ?_
  refine va_iald hx hb hK hP 1 0 rfl rfl (iR_vp hx2 (by decide +kernel)) dX7_copies_10 ?_
  have f_10_1 : iR (f49 x2.toNatClampNeg) 0 1023 := hf49 _
  refine s_iast (g := (upd f49 x1.toNatClampNeg (f49 x2.toNatClampNeg))) (ws' := [(h, .inr (7, oM r i j)), ((r 49), .inl (cI, 22, .inl (upd f49 x1.toNatClampNeg (f49 x2.toNatClampNeg)))), ((r 50), .inl (cI, 22, .inl f50)), ((r 51), .inl (cI, 22, .inl f51)), ((r 52), .inl (cI, 22, .inl f52)), ((r 53), .inl (cI, 22, .inl f53)), ((r 54), .inl (cI, 1100, .inl f54)), ((r 55), .inl (cI, 1100, .inl f55)), ((r 56), .inl (cI, 1100, .inl f56)), ((r 57), .inl (cI, 1100, .inl f57))]) hx hb hK hP hD hS 1 0 rfl rfl (iR_vp hx1 (by decide +kernel)) rfl rfl dX7_copies_11 (fun H locs hP hD hS => ?_)
  refine lv_aload_n hx hb dX7_copies_12 rfl (lv_at hl 0 rfl) ?_
  refine k_get (D := (dC, dI)) (ci := 7) (v := .ref (r 50)) (C := RX7) (T := TX7) (N := 92) hx hb hts hinX7 hown hK hP 0 rfl rfl 50 (by decide) w_1 rfl rfl dX7_copies_13 ?_
  refine lv_iload_n hx hb dX7_copies_16 rfl (lv_at hl 1 rfl) ?_
  refine lv_aload_n hx hb dX7_copies_17 rfl (lv_at hl 0 rfl) ?_
  refine k_get (D := (dC, dI)) (ci := 7) (v := .ref (r 50)) (C := RX7) (T := TX7) (N := 92) hx hb hts hinX7 hown hK hP 0 rfl rfl 50 (by decide) w_1 rfl rfl dX7_copies_18 ?_
  refine lv_iload_n hx hb dX7_copies_21 rfl (lv_at hl 2 rfl) ?_
  refine va_iald hx hb hK hP 2 0 rfl rfl (iR_vp hx2 (by decide +kernel)) dX7_copies_22 ?_
  have f_22_2 : iR (f50 x2.toNatClampNeg) 0 999 := hf50 _
  refine s_iast (g := (upd f50 x1.toNatClampNeg (f50 x2.toNatClampNeg))) (ws' := [(h, .inr (7, oM r i j)), ((r 49), .inl (cI, 22, .inl (upd f49 x1.toNatClampNeg (f49 x2.toNatClampNeg)))), ((r 50), .inl (cI, 22, .inl (upd f50 x1.toNatClampNeg (f50 x2.toNatClampNeg)))), ((r 51), .inl (cI, 22, .inl f51)), ((r 52), .inl (cI, 22, .inl f52)), ((r 53), .inl (cI, 22, .inl f53)), ((r 54), .inl (cI, 1100, .inl f54)), ((r 55), .inl (cI, 1100, .inl f55)), ((r 56), .inl (cI, 1100, .inl f56)), ((r 57), .inl (cI, 1100, .inl f57))]) hx hb hK hP hD hS 2 0 rfl rfl (iR_vp hx1 (by decide +kernel)) rfl rfl dX7_copies_23 (fun H locs hP hD hS => ?_)
  refine lv_aload_n hx hb dX7_copies_24 rfl (lv_at hl 0 rfl) ?_
  refine k_get (D := (dC, dI)) (ci := 7) (v := .ref (r 51)) (C := RX7) (T := TX7) (N := 92) hx hb hts hinX7 hown hK hP 0 rfl rfl 51 (by decide) w_2 rfl rfl dX7_copies_25 ?_
  refine lv_iload_n hx hb dX7_copies_28 rfl (lv_at hl 1 rfl) ?_
  refine lv_aload_n hx hb dX7_copies_29 rfl (lv_at hl 0 rfl) ?_
  refine k_get (D := (dC, dI)) (ci := 7) (v := .ref (r 51)) (C := RX7) (T := TX7) (N := 92) hx hb hts hinX7 hown hK hP 0 rfl rfl 51 (by decide) w_2 rfl rfl dX7_copies_30 ?_
  refine lv_iload_n hx hb dX7_copies_33 rfl (lv_at hl 2 rfl) ?_
  refine va_iald hx hb hK hP 3 0 rfl rfl (iR_vp hx2 (by decide +kernel)) dX7_copies_34 ?_
  refine s_iast (g := (upd f51 x1.toNatClampNeg (f51 x2.toNatClampNeg))) (ws' := [(h, .inr (7, oM r i j)), ((r 49), .inl (cI, 22, .inl (upd f49 x1.toNatClampNeg (f49 x2.toNatClampNeg)))), ((r 50), .inl (cI, 22, .inl (upd f50 x1.toNatClampNeg (f50 x2.toNatClampNeg)))), ((r 51), .inl (cI, 22, .inl (upd f51 x1.toNatClampNeg (f51 x2.toNatClampNeg)))), ((r 52), .inl (cI, 22, .inl f52)), ((r 53), .inl (cI, 22, .inl f53)), ((r 54), .inl (cI, 1100, .inl f54)), ((r 55), .inl (cI, 1100, .inl f55)), ((r 56), .inl (cI, 1100, .inl f56)), ((r 57), .inl (cI, 1100, .inl f57))]) hx hb hK hP hD hS 3 0 rfl rfl (iR_vp hx1 (by decide +kernel)) rfl rfl dX7_copies_35 (fun H locs hP hD hS => ?_)
  refine lv_aload_n hx hb dX7_copies_36 rfl (lv_at hl 0 rfl) ?_
  refine k_get (D := (dC, dI)) (ci := 7) (v := .ref (r 52)) (C := RX7) (T := TX7) (N := 92) hx hb hts hinX7 hown hK hP 0 rfl rfl 52 (by decide) w_3 rfl rfl dX7_copies_37 ?_
  refine lv_iload_n hx hb dX7_copies_40 rfl (lv_at hl 1 rfl) ?_
  refine lv_aload_n hx hb dX7_copies_41 rfl (lv_at hl 0 rfl) ?_
  refine k_get (D := (dC, dI)) (ci := 7) (v := .ref (r 52)) (C := RX7) (T := TX7) (N := 92) hx hb hts hinX7 hown hK hP 0 rfl rfl 52 (by decide) w_3 rfl rfl dX7_copies_42 ?_
  refine lv_iload_n hx hb dX7_copies_45 rfl (lv_at hl 2 rfl) ?_
  refine va_iald hx hb hK hP 4 0 rfl rfl (iR_vp hx2 (by decide +kernel)) dX7_copies_46 ?_
  refine s_iast (g := (upd f52 x1.toNatClampNeg (f52 x2.toNatClampNeg))) (ws' := [(h, .inr (7, oM r i j)), ((r 49), .inl (cI, 22, .inl (upd f49 x1.toNatClampNeg (f49 x2.toNatClampNeg)))), ((r 50), .inl (cI, 22, .inl (upd f50 x1.toNatClampNeg (f50 x2.toNatClampNeg)))), ((r 51), .inl (cI, 22, .inl (upd f51 x1.toNatClampNeg (f51 x2.toNatClampNeg)))), ((r 52), .inl (cI, 22, .inl (upd f52 x1.toNatClampNeg (f52 x2.toNatClampNeg)))), ((r 53), .inl (cI, 22, .inl f53)), ((r 54), .inl (cI, 1100, .inl f54)), ((r 55), .inl (cI, 1100, .inl f55)), ((r 56), .inl (cI, 1100, .inl f56)), ((r 57), .inl (cI, 1100, .inl f57))]) hx hb hK hP hD hS 4 0 rfl rfl (iR_vp hx1 (by decide +kernel)) rfl rfl dX7_copies_47 (fun H locs hP hD hS => ?_)
  refine lv_aload_n hx hb dX7_copies_48 rfl (lv_at hl 0 rfl) ?_
  refine k_get (D := (dC, dI)) (ci := 7) (v := .ref (r 53)) (C := RX7) (T := TX7) (N := 92) hx hb hts hinX7 hown hK hP 0 rfl rfl 53 (by decide) w_4 rfl rfl dX7_copies_49 ?_
  refine lv_iload_n hx hb dX7_copies_52 rfl (lv_at hl 1 rfl) ?_
  refine lv_aload_n hx hb dX7_copies_53 rfl (lv_at hl 0 rfl) ?_
  refine k_get (D := (dC, dI)) (ci := 7) (v := .ref (r 53)) (C := RX7) (T := TX7) (N := 92) hx hb hts hinX7 hown hK hP 0 rfl rfl 53 (by decide) w_4 rfl rfl dX7_copies_54 ?_
  refine lv_iload_n hx hb dX7_copies_57 rfl (lv_at hl 2 rfl) ?_
  refine va_iald hx hb hK hP 5 0 rfl rfl (iR_vp hx2 (by decide +kernel)) dX7_copies_58 ?_
  have f_58_3 : iR (f53 x2.toNatClampNeg) 0 50 := hf53 _
  refine s_iast (g := (upd f53 x1.toNatClampNeg (f53 x2.toNatClampNeg))) (ws' := [(h, .inr (7, oM r i j)), ((r 49), .inl (cI, 22, .inl (upd f49 x1.toNatClampNeg (f49 x2.toNatClampNeg)))), ((r 50), .inl (cI, 22, .inl (upd f50 x1.toNatClampNeg (f50 x2.toNatClampNeg)))), ((r 51), .inl (cI, 22, .inl (upd f51 x1.toNatClampNeg (f51 x2.toNatClampNeg)))), ((r 52), .inl (cI, 22, .inl (upd f52 x1.toNatClampNeg (f52 x2.toNatClampNeg)))), ((r 53), .inl (cI, 22, .inl (upd f53 x1.toNatClampNeg (f53 x2.toNatClampNeg)))), ((r 54), .inl (cI, 1100, .inl f54)), ((r 55), .inl (cI, 1100, .inl f55)), ((r 56), .inl (cI, 1100, .inl f56)), ((r 57), .inl (cI, 1100, .inl f57))]) hx hb hK hP hD hS 5 0 rfl rfl (iR_vp hx1 (by decide +kernel)) rfl rfl dX7_copies_59 (fun H locs hP hD hS => ?_)
  refine lv_iconst (v := 0) hx hb dX7_copies_60 (by decide +kernel) ?_
  have J_62 : ∀ (n_62 : Nat) (j62_A6 : Nat → Int32) (j62_A7 : Nat → Int32) (j62_A8 : Nat → Int32) (j62_A9 : Nat → Int32) (j62_L3 : Int32) (hj62_L3 : iR j62_L3 0 50) (hm_62 : (50 - j62_L3.toInt).toNat < n_62) (H : Heap) (locs : List Loc) (ls : Array Slot), va_P (dC, dI) vwCl [(h, .inr (7, oM r i j)), ((r 49), .inl (cI, 22, .inl (upd f49 x1.toNatClampNeg (f49 x2.toNatClampNeg)))), ((r 50), .inl (cI, 22, .inl (upd f50 x1.toNatClampNeg (f50 x2.toNatClampNeg)))), ((r 51), .inl (cI, 22, .inl (upd f51 x1.toNatClampNeg (f51 x2.toNatClampNeg)))), ((r 52), .inl (cI, 22, .inl (upd f52 x1.toNatClampNeg (f52 x2.toNatClampNeg)))), ((r 53), .inl (cI, 22, .inl (upd f53 x1.toNatClampNeg (f53 x2.toNatClampNeg)))), ((r 54), .inl (cI, 1100, .inl j62_A6)), ((r 55), .inl (cI, 1100, .inl j62_A7)), ((r 56), .inl (cI, 1100, .inl j62_A8)), ((r 57), .inl (cI, 1100, .inl j62_A9))] H → va_D A [(h, .inr (7, oM r i j)), ((r 49), .inl (cI, 22, .inl (upd f49 x1.toNatClampNeg (f49 x2.toNatClampNeg)))), ((r 50), .inl (cI, 22, .inl (upd f50 x1.toNatClampNeg (f50 x2.toNatClampNeg)))), ((r 51), .inl (cI, 22, .inl (upd f51 x1.toNatClampNeg (f51 x2.toNatClampNeg)))), ((r 52), .inl (cI, 22, .inl (upd f52 x1.toNatClampNeg (f52 x2.toNatClampNeg)))), ((r 53), .inl (cI, 22, .inl (upd f53 x1.toNatClampNeg (f53 x2.toNatClampNeg)))), ((r 54), .inl (cI, 1100, .inl j62_A6)), ((r 55), .inl (cI, 1100, .inl j62_A7)), ((r 56), .inl (cI, 1100, .inl j62_A8)), ((r 57), .inl (cI, 1100, .inl j62_A9))] → va_S A s.heap H locs → lv_has ls 4 [(0, .ref h), (1, .int x1), (2, .int x2), (3, .int j62_L3)] → W p l e ({ frames := 1, cells := 0, slots := 0, locals := 40 }) s m args below meth c H locs 0 0 (MQ below (va_Qv (fun (u9 : SU) => True) (fun u => k_B (dC, dI) vwCl (tyy cI cJ cZ cM) A ((fun (u9 : SU) => [(h, .inr (7, oM r i j)), ((r 49), .inl (cI, 22, .inl (upd f49 x1.toNatClampNeg (f49 x2.toNatClampNeg)))), ((r 50), .inl (cI, 22, .inl (upd f50 x1.toNatClampNeg (f50 x2.toNatClampNeg)))), ((r 51), .inl (cI, 22, .inl (upd f51 x1.toNatClampNeg (f51 x2.toNatClampNeg)))), ((r 52), .inl (cI, 22, .inl (upd f52 x1.toNatClampNeg (f52 x2.toNatClampNeg)))), ((r 53), .inl (cI, 22, .inl (upd f53 x1.toNatClampNeg (f53 x2.toNatClampNeg)))), ((r 54), .inl (cI, 1100, .inl (u9.2.2.1 0))), ((r 55), .inl (cI, 1100, .inl (u9.2.2.1 1))), ((r 56), .inl (cI, 1100, .inl (u9.2.2.1 2))), ((r 57), .inl (cI, 1100, .inl (u9.2.2.1 3)))]) u)) A) args s 0 0 A) (F0 m 62 ls []) := by
    intro n_62
    induction n_62 with
    | zero => intro j62_A6 j62_A7 j62_A8 j62_A9 j62_L3 hj62_L3 hm_62; exact absurd hm_62 (Nat.not_lt_zero _)
    | succ n_62 ih_62 =>
      intro j62_A6 j62_A7 j62_A8 j62_A9 j62_L3 hj62_L3 hm_62 H locs ls hP hD hS hl
      refine lv_iload_n hx hb dX7_copies_62 rfl (lv_at hl 3 rfl) ?_
      refine lv_aload_n hx hb dX7_copies_63 rfl (lv_at hl 0 rfl) ?_
      refine k_get (D := (dC, dI)) (ci := 7) (v := .ref (r 53)) (C := RX7) (T := TX7) (N := 92) hx hb hts hinX7 hown hK hP 0 rfl rfl 53 (by decide) w_4 rfl rfl dX7_copies_64 ?_
      refine lv_iload_n hx hb dX7_copies_67 rfl (lv_at hl 2 rfl) ?_
      refine va_iald hx hb hK hP 5 0 rfl rfl (iR_vp hx2 (by decide +kernel)) dX7_copies_68 ?_
      refine lv_topi (fun y_68 ey_68 => ?_)
      have f_68_1 : iR y_68 0 50 := iR_of ey_68 ((aR_upd _ hf53 f_58_3) _)
      refine lv_icmp_ge (tgt := 166) hx hb dX7_copies_69 (by decide) (fun c_69 => ?_) (fun c_69 => ?_)
      · have c_69 : y_68 ≤ j62_L3 := c_69
        exact k_rv B hP hD hS dX7_copies_166 ((fun _ => 0), (fun _ => 0), (fun k9 => match k9 with | 0 => j62_A6 | 1 => j62_A7 | 2 => j62_A8 | 3 => j62_A9 | _ => (fun _ => 0)), (fun _ => (fun _ => 0)), (fun _ => 0)) [0, 1, 2, 3, 4, 5, 6, 7, 8, 9] rfl rfl (Nat.le_of_ble_eq_true rfl) (Nat.le_of_ble_eq_true rfl) trivial
      · have c_69 : j62_L3 < y_68 := i_nle c_69
        have f_72_2 : iR j62_L3 0 49 := iR_ltL c_69 hj62_L3 f_68_1 (by decide +kernel)
        have f_72_3 : iR y_68 1 50 := iR_ltR c_69 hj62_L3 f_68_1 (by decide +kernel)
        refine lv_aload_n hx hb dX7_copies_72 rfl (lv_at hl 0 rfl) ?_
        refine k_get (D := (dC, dI)) (ci := 7) (v := .ref (r 54)) (C := RX7) (T := TX7) (N := 92) hx hb hts hinX7 hown hK hP 0 rfl rfl 54 (by decide) w_5 rfl rfl dX7_copies_73 ?_
        refine lv_bipush (v := 50) hx hb dX7_copies_76 (by decide +kernel) ?_
        refine lv_iload_n hx hb dX7_copies_78 rfl (lv_at hl 1 rfl) ?_
        refine lv_imul hx hb dX7_copies_79 ?_
        refine lv_topi (fun y_79 ey_79 => ?_)
        have f_79_4 : iR y_79 0 1050 := iR_mul ey_79 (iR_c (n := 50) (a := 50) (b := 50) (by decide +kernel) (by decide +kernel)) hx1 (by decide +kernel)
        refine lv_iload_n hx hb dX7_copies_80 rfl (lv_at hl 3 rfl) ?_
        refine lv_iadd hx hb dX7_copies_81 ?_
        refine lv_topi (fun y_81 ey_81 => ?_)
        have f_81_5 : iR y_81 0 1099 := iR_add ey_81 f_79_4 f_72_2 (by decide +kernel)
        refine lv_aload_n hx hb dX7_copies_82 rfl (lv_at hl 0 rfl) ?_
        refine k_get (D := (dC, dI)) (ci := 7) (v := .ref (r 54)) (C := RX7) (T := TX7) (N := 92) hx hb hts hinX7 hown hK hP 0 rfl rfl 54 (by decide) w_5 rfl rfl dX7_copies_83 ?_
        refine lv_bipush (v := 50) hx hb dX7_copies_86 (by decide +kernel) ?_
        refine lv_iload_n hx hb dX7_copies_88 rfl (lv_at hl 2 rfl) ?_
        refine lv_imul hx hb dX7_copies_89 ?_
        refine lv_topi (fun y_89 ey_89 => ?_)
        have f_89_6 : iR y_89 0 1050 := iR_mul ey_89 (iR_c (n := 50) (a := 50) (b := 50) (by decide +kernel) (by decide +kernel)) hx2 (by decide +kernel)
        refine lv_iload_n hx hb dX7_copies_90 rfl (lv_at hl 3 rfl) ?_
        refine lv_iadd hx hb dX7_copies_91 ?_
        refine lv_topi (fun y_91 ey_91 => ?_)
        have f_91_7 : iR y_91 0 1099 := iR_add ey_91 f_89_6 f_72_2 (by decide +kernel)
        refine va_iald hx hb hK hP 6 0 rfl rfl (iR_vp f_91_7 (by decide +kernel)) dX7_copies_92 ?_
        refine s_iast (g := (upd j62_A6 y_81.toNatClampNeg (j62_A6 y_91.toNatClampNeg))) (ws' := [(h, .inr (7, oM r i j)), ((r 49), .inl (cI, 22, .inl (upd f49 x1.toNatClampNeg (f49 x2.toNatClampNeg)))), ((r 50), .inl (cI, 22, .inl (upd f50 x1.toNatClampNeg (f50 x2.toNatClampNeg)))), ((r 51), .inl (cI, 22, .inl (upd f51 x1.toNatClampNeg (f51 x2.toNatClampNeg)))), ((r 52), .inl (cI, 22, .inl (upd f52 x1.toNatClampNeg (f52 x2.toNatClampNeg)))), ((r 53), .inl (cI, 22, .inl (upd f53 x1.toNatClampNeg (f53 x2.toNatClampNeg)))), ((r 54), .inl (cI, 1100, .inl (upd j62_A6 y_81.toNatClampNeg (j62_A6 y_91.toNatClampNeg)))), ((r 55), .inl (cI, 1100, .inl j62_A7)), ((r 56), .inl (cI, 1100, .inl j62_A8)), ((r 57), .inl (cI, 1100, .inl j62_A9))]) hx hb hK hP hD hS 6 0 rfl rfl (iR_vp f_81_5 (by decide +kernel)) rfl rfl dX7_copies_93 (fun H locs hP hD hS => ?_)
        refine lv_aload_n hx hb dX7_copies_94 rfl (lv_at hl 0 rfl) ?_
        refine k_get (D := (dC, dI)) (ci := 7) (v := .ref (r 55)) (C := RX7) (T := TX7) (N := 92) hx hb hts hinX7 hown hK hP 0 rfl rfl 55 (by decide) w_6 rfl rfl dX7_copies_95 ?_
        refine lv_bipush (v := 50) hx hb dX7_copies_98 (by decide +kernel) ?_
        refine lv_iload_n hx hb dX7_copies_100 rfl (lv_at hl 1 rfl) ?_
        refine lv_imul hx hb dX7_copies_101 ?_
        refine lv_topi (fun y_101 ey_101 => ?_)
        have f_101_8 : iR y_101 0 1050 := iR_mul ey_101 (iR_c (n := 50) (a := 50) (b := 50) (by decide +kernel) (by decide +kernel)) hx1 (by decide +kernel)
        refine lv_iload_n hx hb dX7_copies_102 rfl (lv_at hl 3 rfl) ?_
        refine lv_iadd hx hb dX7_copies_103 ?_
        refine lv_topi (fun y_103 ey_103 => ?_)
        have f_103_9 : iR y_103 0 1099 := iR_add ey_103 f_101_8 f_72_2 (by decide +kernel)
        refine lv_aload_n hx hb dX7_copies_104 rfl (lv_at hl 0 rfl) ?_
        refine k_get (D := (dC, dI)) (ci := 7) (v := .ref (r 55)) (C := RX7) (T := TX7) (N := 92) hx hb hts hinX7 hown hK hP 0 rfl rfl 55 (by decide) w_6 rfl rfl dX7_copies_105 ?_
        refine lv_bipush (v := 50) hx hb dX7_copies_108 (by decide +kernel) ?_
        refine lv_iload_n hx hb dX7_copies_110 rfl (lv_at hl 2 rfl) ?_
        refine lv_imul hx hb dX7_copies_111 ?_
        refine lv_topi (fun y_111 ey_111 => ?_)
        have f_111_10 : iR y_111 0 1050 := iR_mul ey_111 (iR_c (n := 50) (a := 50) (b := 50) (by decide +kernel) (by decide +kernel)) hx2 (by decide +kernel)
        refine lv_iload_n hx hb dX7_copies_112 rfl (lv_at hl 3 rfl) ?_
        refine lv_iadd hx hb dX7_copies_113 ?_
        refine lv_topi (fun y_113 ey_113 => ?_)
        have f_113_11 : iR y_113 0 1099 := iR_add ey_113 f_111_10 f_72_2 (by decide +kernel)
        refine va_iald hx hb hK hP 7 0 rfl rfl (iR_vp f_113_11 (by decide +kernel)) dX7_copies_114 ?_
        refine s_iast (g := (upd j62_A7 y_103.toNatClampNeg (j62_A7 y_113.toNatClampNeg))) (ws' := [(h, .inr (7, oM r i j)), ((r 49), .inl (cI, 22, .inl (upd f49 x1.toNatClampNeg (f49 x2.toNatClampNeg)))), ((r 50), .inl (cI, 22, .inl (upd f50 x1.toNatClampNeg (f50 x2.toNatClampNeg)))), ((r 51), .inl (cI, 22, .inl (upd f51 x1.toNatClampNeg (f51 x2.toNatClampNeg)))), ((r 52), .inl (cI, 22, .inl (upd f52 x1.toNatClampNeg (f52 x2.toNatClampNeg)))), ((r 53), .inl (cI, 22, .inl (upd f53 x1.toNatClampNeg (f53 x2.toNatClampNeg)))), ((r 54), .inl (cI, 1100, .inl (upd j62_A6 y_81.toNatClampNeg (j62_A6 y_91.toNatClampNeg)))), ((r 55), .inl (cI, 1100, .inl (upd j62_A7 y_103.toNatClampNeg (j62_A7 y_113.toNatClampNeg)))), ((r 56), .inl (cI, 1100, .inl j62_A8)), ((r 57), .inl (cI, 1100, .inl j62_A9))]) hx hb hK hP hD hS 7 0 rfl rfl (iR_vp f_103_9 (by decide +kernel)) rfl rfl dX7_copies_115 (fun H locs hP hD hS => ?_)
        refine lv_aload_n hx hb dX7_copies_116 rfl (lv_at hl 0 rfl) ?_
        refine k_get (D := (dC, dI)) (ci := 7) (v := .ref (r 56)) (C := RX7) (T := TX7) (N := 92) hx hb hts hinX7 hown hK hP 0 rfl rfl 56 (by decide) w_7 rfl rfl dX7_copies_117 ?_
        refine lv_bipush (v := 50) hx hb dX7_copies_120 (by decide +kernel) ?_
        refine lv_iload_n hx hb dX7_copies_122 rfl (lv_at hl 1 rfl) ?_
        refine lv_imul hx hb dX7_copies_123 ?_
        refine lv_topi (fun y_123 ey_123 => ?_)
        have f_123_12 : iR y_123 0 1050 := iR_mul ey_123 (iR_c (n := 50) (a := 50) (b := 50) (by decide +kernel) (by decide +kernel)) hx1 (by decide +kernel)
        refine lv_iload_n hx hb dX7_copies_124 rfl (lv_at hl 3 rfl) ?_
        refine lv_iadd hx hb dX7_copies_125 ?_
        refine lv_topi (fun y_125 ey_125 => ?_)
        have f_125_13 : iR y_125 0 1099 := iR_add ey_125 f_123_12 f_72_2 (by decide +kernel)
        refine lv_aload_n hx hb dX7_copies_126 rfl (lv_at hl 0 rfl) ?_
        refine k_get (D := (dC, dI)) (ci := 7) (v := .ref (r 56)) (C := RX7) (T := TX7) (N := 92) hx hb hts hinX7 hown hK hP 0 rfl rfl 56 (by decide) w_7 rfl rfl dX7_copies_127 ?_
        refine lv_bipush (v := 50) hx hb dX7_copies_130 (by decide +kernel) ?_
        refine lv_iload_n hx hb dX7_copies_132 rfl (lv_at hl 2 rfl) ?_
        refine lv_imul hx hb dX7_copies_133 ?_
        refine lv_topi (fun y_133 ey_133 => ?_)
        have f_133_14 : iR y_133 0 1050 := iR_mul ey_133 (iR_c (n := 50) (a := 50) (b := 50) (by decide +kernel) (by decide +kernel)) hx2 (by decide +kernel)
        refine lv_iload_n hx hb dX7_copies_134 rfl (lv_at hl 3 rfl) ?_
        refine lv_iadd hx hb dX7_copies_135 ?_
        refine lv_topi (fun y_135 ey_135 => ?_)
        have f_135_15 : iR y_135 0 1099 := iR_add ey_135 f_133_14 f_72_2 (by decide +kernel)
        refine va_iald hx hb hK hP 8 0 rfl rfl (iR_vp f_135_15 (by decide +kernel)) dX7_copies_136 ?_
        refine s_iast (g := (upd j62_A8 y_125.toNatClampNeg (j62_A8 y_135.toNatClampNeg))) (ws' := [(h, .inr (7, oM r i j)), ((r 49), .inl (cI, 22, .inl (upd f49 x1.toNatClampNeg (f49 x2.toNatClampNeg)))), ((r 50), .inl (cI, 22, .inl (upd f50 x1.toNatClampNeg (f50 x2.toNatClampNeg)))), ((r 51), .inl (cI, 22, .inl (upd f51 x1.toNatClampNeg (f51 x2.toNatClampNeg)))), ((r 52), .inl (cI, 22, .inl (upd f52 x1.toNatClampNeg (f52 x2.toNatClampNeg)))), ((r 53), .inl (cI, 22, .inl (upd f53 x1.toNatClampNeg (f53 x2.toNatClampNeg)))), ((r 54), .inl (cI, 1100, .inl (upd j62_A6 y_81.toNatClampNeg (j62_A6 y_91.toNatClampNeg)))), ((r 55), .inl (cI, 1100, .inl (upd j62_A7 y_103.toNatClampNeg (j62_A7 y_113.toNatClampNeg)))), ((r 56), .inl (cI, 1100, .inl (upd j62_A8 y_125.toNatClampNeg (j62_A8 y_135.toNatClampNeg)))), ((r 57), .inl (cI, 1100, .inl j62_A9))]) hx hb hK hP hD hS 8 0 rfl rfl (iR_vp f_125_13 (by decide +kernel)) rfl rfl dX7_copies_137 (fun H locs hP hD hS => ?_)
        refine lv_aload_n hx hb dX7_copies_138 rfl (lv_at hl 0 rfl) ?_
        refine k_get (D := (dC, dI)) (ci := 7) (v := .ref (r 57)) (C := RX7) (T := TX7) (N := 92) hx hb hts hinX7 hown hK hP 0 rfl rfl 57 (by decide) w_8 rfl rfl dX7_copies_139 ?_
        refine lv_bipush (v := 50) hx hb dX7_copies_142 (by decide +kernel) ?_
        refine lv_iload_n hx hb dX7_copies_144 rfl (lv_at hl 1 rfl) ?_
        refine lv_imul hx hb dX7_copies_145 ?_
        refine lv_topi (fun y_145 ey_145 => ?_)
        have f_145_16 : iR y_145 0 1050 := iR_mul ey_145 (iR_c (n := 50) (a := 50) (b := 50) (by decide +kernel) (by decide +kernel)) hx1 (by decide +kernel)
        refine lv_iload_n hx hb dX7_copies_146 rfl (lv_at hl 3 rfl) ?_
        refine lv_iadd hx hb dX7_copies_147 ?_
        refine lv_topi (fun y_147 ey_147 => ?_)
        have f_147_17 : iR y_147 0 1099 := iR_add ey_147 f_145_16 f_72_2 (by decide +kernel)
        refine lv_aload_n hx hb dX7_copies_148 rfl (lv_at hl 0 rfl) ?_
        refine k_get (D := (dC, dI)) (ci := 7) (v := .ref (r 57)) (C := RX7) (T := TX7) (N := 92) hx hb hts hinX7 hown hK hP 0 rfl rfl 57 (by decide) w_8 rfl rfl dX7_copies_149 ?_
        refine lv_bipush (v := 50) hx hb dX7_copies_152 (by decide +kernel) ?_
        refine lv_iload_n hx hb dX7_copies_154 rfl (lv_at hl 2 rfl) ?_
        refine lv_imul hx hb dX7_copies_155 ?_
        refine lv_topi (fun y_155 ey_155 => ?_)
        have f_155_18 : iR y_155 0 1050 := iR_mul ey_155 (iR_c (n := 50) (a := 50) (b := 50) (by decide +kernel) (by decide +kernel)) hx2 (by decide +kernel)
        refine lv_iload_n hx hb dX7_copies_156 rfl (lv_at hl 3 rfl) ?_
        refine lv_iadd hx hb dX7_copies_157 ?_
        refine lv_topi (fun y_157 ey_157 => ?_)
        have f_157_19 : iR y_157 0 1099 := iR_add ey_157 f_155_18 f_72_2 (by decide +kernel)
        refine va_iald hx hb hK hP 9 0 rfl rfl (iR_vp f_157_19 (by decide +kernel)) dX7_copies_158 ?_
        refine s_iast (g := (upd j62_A9 y_147.toNatClampNeg (j62_A9 y_157.toNatClampNeg))) (ws' := [(h, .inr (7, oM r i j)), ((r 49), .inl (cI, 22, .inl (upd f49 x1.toNatClampNeg (f49 x2.toNatClampNeg)))), ((r 50), .inl (cI, 22, .inl (upd f50 x1.toNatClampNeg (f50 x2.toNatClampNeg)))), ((r 51), .inl (cI, 22, .inl (upd f51 x1.toNatClampNeg (f51 x2.toNatClampNeg)))), ((r 52), .inl (cI, 22, .inl (upd f52 x1.toNatClampNeg (f52 x2.toNatClampNeg)))), ((r 53), .inl (cI, 22, .inl (upd f53 x1.toNatClampNeg (f53 x2.toNatClampNeg)))), ((r 54), .inl (cI, 1100, .inl (upd j62_A6 y_81.toNatClampNeg (j62_A6 y_91.toNatClampNeg)))), ((r 55), .inl (cI, 1100, .inl (upd j62_A7 y_103.toNatClampNeg (j62_A7 y_113.toNatClampNeg)))), ((r 56), .inl (cI, 1100, .inl (upd j62_A8 y_125.toNatClampNeg (j62_A8 y_135.toNatClampNeg)))), ((r 57), .inl (cI, 1100, .inl (upd j62_A9 y_147.toNatClampNeg (j62_A9 y_157.toNatClampNeg))))]) hx hb hK hP hD hS 9 0 rfl rfl (iR_vp f_147_17 (by decide +kernel)) rfl rfl dX7_copies_159 (fun H locs hP hD hS => ?_)
        obtain ⟨y_160, ey_160⟩ : ∃ y : Int32, y = j62_L3 + 1 := ⟨_, rfl⟩
        refine lv_iinc (v := y_160) (lv' := [(3, .int y_160), (0, .ref h), (1, .int x1), (2, .int x2)]) hx hb dX7_copies_160 hl (k := 3) rfl ey_160.symm (by decide) rfl (fun ls hl => ?_)
        have f_160_20 : iR y_160 1 50 := iR_add ey_160 f_72_2 (iR_c (n := 1) (a := 1) (b := 1) (by decide +kernel) (by decide +kernel)) (by decide +kernel)
        refine lv_goto (tgt := 62) hx hb dX7_copies_163 (by decide) ?_
        exact ih_62 (upd j62_A6 y_81.toNatClampNeg (j62_A6 y_91.toNatClampNeg)) (upd j62_A7 y_103.toNatClampNeg (j62_A7 y_113.toNatClampNeg)) (upd j62_A8 y_125.toNatClampNeg (j62_A8 y_135.toNatClampNeg)) (upd j62_A9 y_147.toNatClampNeg (j62_A9 y_157.toNatClampNeg)) y_160 (iR_w f_160_20 (by decide +kernel)) (m_up (B := 50) hm_62 ey_160 f_72_2 (by decide +kernel)) H locs ls hP hD hS (lv_sub hl [1, 2, 3, 0] rfl)
  refine lv_istore_n (lv' := [(3, .int 0), (0, .ref h), (1, .int x1), (2, .int x2)]) hx hb dX7_copies_61 rfl hl (by decide) rfl (fun ls hl => ?_)
  exact J_62 _ f54 f55 f56 f57 0 (iR_c (n := 0) (a := 0) (b := 50) (by decide +kernel) (by decide +kernel)) (Nat.lt_succ_self _) H locs ls hP hD hS (lv_sub hl [1, 2, 3, 0] rfl)
set_option maxHeartbeats 8000000 in
set_option maxRecDepth 100000 in
theorem s_X7_keeps_v1 (l : Launch) (dC : Nat → ClassId) (dI : Nat → Nat → Nat) (cI cJ cZ cM : ClassId) (h : Nat) (r : Nat → Nat) (i : Nat → Int32) (j : Nat → Int64) (f49 : Nat → Int32) (f50 : Nat → Int32) (f51 : Nat → Int32) (f52 : Nat → Int32) (f53 : Nat → Int32) (f54 : Nat → Int32) (f55 : Nat → Int32) (f56 : Nat → Int32) (f57 : Nat → Int32) (hI : mR i) (hf49 : aR f49 0 1023) (hf50 : aR f50 0 999) (hf53 : aR f53 0 50) : k_Mv l yX7_keeps wsX7_keeps ({ frames := 2, cells := 0, slots := 0, locals := 63 }) (dC, dI) vwCl (tyy cI cJ cZ cM) [(h, .inr (7, oM r i j)), ((r 49), .inl (cI, 22, .inl f49)), ((r 50), .inl (cI, 22, .inl f50)), ((r 51), .inl (cI, 22, .inl f51)), ((r 52), .inl (cI, 22, .inl f52)), ((r 53), .inl (cI, 22, .inl f53)), ((r 54), .inl (cI, 1100, .inl f54)), ((r 55), .inl (cI, 1100, .inl f55)), ((r 56), .inl (cI, 1100, .inl f56)), ((r 57), .inl (cI, 1100, .inl f57))] [.ref h] 0 0 (fun (u9 : SU) => [(h, .inr (7, oM r (upd (upd i 58 (u9.1 0)) 59 (u9.1 1)) j)), ((r 49), .inl (cI, 22, .inl (u9.2.2.1 0))), ((r 50), .inl (cI, 22, .inl (u9.2.2.1 1))), ((r 51), .inl (cI, 22, .inl (u9.2.2.1 2))), ((r 52), .inl (cI, 22, .inl (u9.2.2.1 3))), ((r 53), .inl (cI, 22, .inl (u9.2.2.1 4))), ((r 54), .inl (cI, 1100, .inl (u9.2.2.1 5))), ((r 55), .inl (cI, 1100, .inl (u9.2.2.1 6))), ((r 56), .inl (cI, 1100, .inl (u9.2.2.1 7))), ((r 57), .inl (cI, 1100, .inl (u9.2.2.1 8)))]) (fun (u9 : SU) => (iR (u9.1 0) 0 19) ∧ (iR (u9.1 1) 1 20) ∧ (aR (u9.2.2.1 0) 0 1023) ∧ (aR (u9.2.2.1 1) 0 999) ∧ (aR (u9.2.2.1 4) 0 50)) := by
  refine fun sz => k_enter (cc := cX7_keeps) (maxL := 1) (ret := none) (Qc := fun A => va_Qv (fun (u9 : SU) => (iR (u9.1 0) 0 19) ∧ (iR (u9.1 1) 1 20) ∧ (aR (u9.2.2.1 0) 0 1023) ∧ (aR (u9.2.2.1 1) 0 999) ∧ (aR (u9.2.2.1 4) 0 50)) (fun u => k_B (dC, dI) vwCl (tyy cI cJ cZ cM) A ((fun (u9 : SU) => [(h, .inr (7, oM r (upd (upd i 58 (u9.1 0)) 59 (u9.1 1)) j)), ((r 49), .inl (cI, 22, .inl (u9.2.2.1 0))), ((r 50), .inl (cI, 22, .inl (u9.2.2.1 1))), ((r 51), .inl (cI, 22, .inl (u9.2.2.1 2))), ((r 52), .inl (cI, 22, .inl (u9.2.2.1 3))), ((r 53), .inl (cI, 22, .inl (u9.2.2.1 4))), ((r 54), .inl (cI, 1100, .inl (u9.2.2.1 5))), ((r 55), .inl (cI, 1100, .inl (u9.2.2.1 6))), ((r 56), .inl (cI, 1100, .inl (u9.2.2.1 7))), ((r 57), .inl (cI, 1100, .inl (u9.2.2.1 8)))]) u)) A) sz (by decide +kernel) rfl (Nat.le_of_ble_eq_true rfl) (fun p e s m args below meth c A ls H locs B hP hD hS hl => ?_)
  obtain ⟨hx, hb, hml, hown, hts, hr, hlk, hnm, hK, hA, hN, hC⟩ := id B
  have hown : s.vm.findClass RX7 = some m.cls := hown
  have hl : lv_has ls 1 [(0, .ref h)] := hl
  have w_0 : (Cond.fieldLink RX7 192 "WishSeaModel" "undos" "I").before args s = true := hts _ (List.mem_of_getElem? (i := 1) rfl)
  have w_1 : (Cond.fieldLink RX7 189 "WishSeaModel" "undoFirst" "I").before args s = true := hts _ (List.mem_of_getElem? (i := 2) rfl)
  have hinX7 : ∀ w ∈ u_ws RX7 TX7 92, w ∈ wsX7_keeps := fun _ h => List.mem_cons_of_mem _ (List.mem_append_right _ h)
  refine lv_aload_n hx hb dX7_keeps_0 rfl (lv_at hl 0 rfl) ?_
  have f_1_1 : iR (i 59) 0 20 := hI 59
  refine k_get (D := (dC, dI)) (ci := 7) (v := .int (i 59)) (C := RX7) (T := TX7) (N := 92) hx hb hts hinX7 hown hK hP 0 rfl rfl 59 (by decide) w_0 rfl rfl dX7_keeps_1 ?_
  refine lv_bipush (v := 20) hx hb dX7_keeps_4 (by decide +kernel) ?_
  refine lv_icmp_ne (tgt := 32) hx hb dX7_keeps_6 (by decide) (fun c_6 => ?_) (fun c_6 => ?_)
  · have c_6 : ¬ (i 59) = 20 := c_6
    have f_32_2 : iR (i 59) 0 19 := iR_neL c_6 f_1_1 (iR_c (n := 20) (a := 20) (b := 20) (by decide +kernel) (by decide +kernel)) (by decide +kernel)
    refine lv_aload_n hx hb dX7_keeps_32 rfl (lv_at hl 0 rfl) ?_
    refine lv_aload_n hx hb dX7_keeps_33 rfl (lv_at hl 0 rfl) ?_
    refine lv_aload_n hx hb dX7_keeps_34 rfl (lv_at hl 0 rfl) ?_
    refine k_get (D := (dC, dI)) (ci := 7) (v := .int (i 59)) (C := RX7) (T := TX7) (N := 92) hx hb hts hinX7 hown hK hP 0 rfl rfl 59 (by decide) w_0 rfl rfl dX7_keeps_35 ?_
    refine k_ci (wc := [(h, .inr (7, oM r i j))]) (wr := [((r 49), .inl (cI, 22, .inl f49)), ((r 50), .inl (cI, 22, .inl f50)), ((r 51), .inl (cI, 22, .inl f51)), ((r 52), .inl (cI, 22, .inl f52)), ((r 53), .inl (cI, 22, .inl f53)), ((r 54), .inl (cI, 1100, .inl f54)), ((r 55), .inl (cI, 1100, .inl f55)), ((r 56), .inl (cI, 1100, .inl f56)), ((r 57), .inl (cI, 1100, .inl f57))]) (fun hPc hDc hFc => va_runV (As := [.int (i 59)]) (rest := [.ref h]) ⟨hx, hb, hml, hown, hts⟩ (s_X7_ring_v1 l dC dI cI cJ cZ cM h r i j (i 59) (iR_w f_32_2 (by decide +kernel)) hI H.size) (cwV 1 hts gX7_keeps_X7_ring rfl rfl rfl (by decide +kernel) ⟨(Nat.le_of_ble_eq_true rfl), (Nat.le_of_ble_eq_true rfl)⟩) (k_pV hPc hDc hK hN hC hS hFc hP (q0 := 0) (ci := 7) rfl rfl) rfl rfl hl.1 rfl (lv_room (Nat.le_of_ble_eq_true rfl)) dX7_keeps_38 ⟨(Nat.le_of_ble_eq_true rfl), (Nat.le_of_ble_eq_true rfl)⟩) hP hD hS hA [0] [1, 2, 3, 4, 5, 6, 7, 8, 9] rfl rfl rfl rfl (by decide) (fun _ => rfl) 0 0 rfl rfl (fun r_38p6 u_38p6 H locs hw hP hD hS => ?_)
    have g_38p6_0 := hw
    have hP : va_P (dC, dI) vwCl [((r 49), .inl (cI, 22, .inl f49)), ((r 50), .inl (cI, 22, .inl f50)), ((r 51), .inl (cI, 22, .inl f51)), ((r 52), .inl (cI, 22, .inl f52)), ((r 53), .inl (cI, 22, .inl f53)), ((r 54), .inl (cI, 1100, .inl f54)), ((r 55), .inl (cI, 1100, .inl f55)), ((r 56), .inl (cI, 1100, .inl f56)), ((r 57), .inl (cI, 1100, .inl f57)), (h, .inr (7, oM r i j))] H := hP
    have hD : va_D A [((r 49), .inl (cI, 22, .inl f49)), ((r 50), .inl (cI, 22, .inl f50)), ((r 51), .inl (cI, 22, .inl f51)), ((r 52), .inl (cI, 22, .inl f52)), ((r 53), .inl (cI, 22, .inl f53)), ((r 54), .inl (cI, 1100, .inl f54)), ((r 55), .inl (cI, 1100, .inl f55)), ((r 56), .inl (cI, 1100, .inl f56)), ((r 57), .inl (cI, 1100, .inl f57)), (h, .inr (7, oM r i j))] := hD
    refine lv_iconst (v := 0) hx hb dX7_keeps_41 (by decide +kernel) ?_
    refine k_cv (wc := [(h, .inr (7, oM r i j)), ((r 49), .inl (cI, 22, .inl f49)), ((r 50), .inl (cI, 22, .inl f50)), ((r 51), .inl (cI, 22, .inl f51)), ((r 52), .inl (cI, 22, .inl f52)), ((r 53), .inl (cI, 22, .inl f53)), ((r 54), .inl (cI, 1100, .inl f54)), ((r 55), .inl (cI, 1100, .inl f55)), ((r 56), .inl (cI, 1100, .inl f56)), ((r 57), .inl (cI, 1100, .inl f57))]) (wr := []) (fun hPc hDc hFc => va_runV (As := [.int r_38p6, .int 0]) (rest := []) ⟨hx, hb, hml, hown, hts⟩ (s_X7_copies_v1 l dC dI cI cJ cZ cM h r i j r_38p6 0 f49 f50 f51 f52 f53 f54 f55 f56 f57 (iR_w g_38p6_0 (by decide +kernel)) (iR_c (n := 0) (a := 0) (b := 21) (by decide +kernel) (by decide +kernel)) hI hf49 hf50 hf53 H.size) (cwV 2 hts gX7_keeps_X7_copies rfl rfl rfl (by decide +kernel) ⟨(Nat.le_of_ble_eq_true rfl), (Nat.le_of_ble_eq_true rfl)⟩) (k_pV hPc hDc hK hN hC hS hFc hP (q0 := 9) (ci := 7) rfl rfl) rfl rfl hl.1 rfl (lv_room (Nat.le_of_ble_eq_true rfl)) dX7_keeps_42 ⟨(Nat.le_of_ble_eq_true rfl), (Nat.le_of_ble_eq_true rfl)⟩) hP hD hS hA [9, 0, 1, 2, 3, 4, 5, 6, 7, 8] [] rfl rfl rfl rfl (by decide) (fun _ => rfl) 0 0 rfl rfl (fun u_42p6 H locs hw hP hD hS => ?_)
    have hP : va_P (dC, dI) vwCl [(h, .inr (7, oM r i j)), ((r 49), .inl (cI, 22, .inl (upd f49 r_38p6.toNatClampNeg (f49 0)))), ((r 50), .inl (cI, 22, .inl (upd f50 r_38p6.toNatClampNeg (f50 0)))), ((r 51), .inl (cI, 22, .inl (upd f51 r_38p6.toNatClampNeg (f51 0)))), ((r 52), .inl (cI, 22, .inl (upd f52 r_38p6.toNatClampNeg (f52 0)))), ((r 53), .inl (cI, 22, .inl (upd f53 r_38p6.toNatClampNeg (f53 0)))), ((r 54), .inl (cI, 1100, .inl (u_42p6.2.2.1 0))), ((r 55), .inl (cI, 1100, .inl (u_42p6.2.2.1 1))), ((r 56), .inl (cI, 1100, .inl (u_42p6.2.2.1 2))), ((r 57), .inl (cI, 1100, .inl (u_42p6.2.2.1 3)))] H := hP
    have hD : va_D A [(h, .inr (7, oM r i j)), ((r 49), .inl (cI, 22, .inl (upd f49 r_38p6.toNatClampNeg (f49 0)))), ((r 50), .inl (cI, 22, .inl (upd f50 r_38p6.toNatClampNeg (f50 0)))), ((r 51), .inl (cI, 22, .inl (upd f51 r_38p6.toNatClampNeg (f51 0)))), ((r 52), .inl (cI, 22, .inl (upd f52 r_38p6.toNatClampNeg (f52 0)))), ((r 53), .inl (cI, 22, .inl (upd f53 r_38p6.toNatClampNeg (f53 0)))), ((r 54), .inl (cI, 1100, .inl (u_42p6.2.2.1 0))), ((r 55), .inl (cI, 1100, .inl (u_42p6.2.2.1 1))), ((r 56), .inl (cI, 1100, .inl (u_42p6.2.2.1 2))), ((r 57), .inl (cI, 1100, .inl (u_42p6.2.2.1 3)))] := hD
    refine lv_aload_n hx hb dX7_keeps_45 rfl (lv_at hl 0 rfl) ?_
    refine lv_dup hx hb dX7_keeps_46 rfl ?_
    refine k_get (D := (dC, dI)) (ci := 7) (v := .int (i 59)) (C := RX7) (T := TX7) (N := 92) hx hb hts hinX7 hown hK hP 0 rfl rfl 59 (by decide) w_0 rfl rfl dX7_keeps_47 ?_
    refine lv_iconst (v := 1) hx hb dX7_keeps_50 (by decide +kernel) ?_
    refine lv_iadd hx hb dX7_keeps_51 ?_
    refine lv_topi (fun y_51p6 ey_51p6 => ?_)
    have f_51p6_3 : iR y_51p6 1 20 := iR_add ey_51p6 f_32_2 (iR_c (n := 1) (a := 1) (b := 1) (by decide +kernel) (by decide +kernel)) (by decide +kernel)
    refine k_put (D := (dC, dI)) (ci := 7) (v := .int y_51p6) (C := RX7) (T := TX7) (N := 92) (ws' := [(h, .inr (7, oM r (upd i 59 y_51p6) j)), ((r 49), .inl (cI, 22, .inl (upd f49 r_38p6.toNatClampNeg (f49 0)))), ((r 50), .inl (cI, 22, .inl (upd f50 r_38p6.toNatClampNeg (f50 0)))), ((r 51), .inl (cI, 22, .inl (upd f51 r_38p6.toNatClampNeg (f51 0)))), ((r 52), .inl (cI, 22, .inl (upd f52 r_38p6.toNatClampNeg (f52 0)))), ((r 53), .inl (cI, 22, .inl (upd f53 r_38p6.toNatClampNeg (f53 0)))), ((r 54), .inl (cI, 1100, .inl (u_42p6.2.2.1 0))), ((r 55), .inl (cI, 1100, .inl (u_42p6.2.2.1 1))), ((r 56), .inl (cI, 1100, .inl (u_42p6.2.2.1 2))), ((r 57), .inl (cI, 1100, .inl (u_42p6.2.2.1 3)))]) hx hb hts hinX7 tyX7 tyX7_ok nmX7 hown hK hP hD hS 0 rfl rfl 59 (by decide) w_0 rfl rfl rfl rfl (Nat.le_of_ble_eq_true rfl) rfl dX7_keeps_52 (fun H locs hP hD hS => ?_)
    exact k_rv B hP hD hS dX7_keeps_55 ((fun k9 => match k9 with | 0 => (i 58) | 1 => y_51p6 | _ => 0), (fun _ => 0), (fun k9 => match k9 with | 0 => (upd f49 r_38p6.toNatClampNeg (f49 0)) | 1 => (upd f50 r_38p6.toNatClampNeg (f50 0)) | 2 => (upd f51 r_38p6.toNatClampNeg (f51 0)) | 3 => (upd f52 r_38p6.toNatClampNeg (f52 0)) | 4 => (upd f53 r_38p6.toNatClampNeg (f53 0)) | 5 => (u_42p6.2.2.1 0) | 6 => (u_42p6.2.2.1 1) | 7 => (u_42p6.2.2.1 2) | 8 => (u_42p6.2.2.1 3) | _ => (fun _ => 0)), (fun _ => (fun _ => 0)), (fun _ => 0)) [0, 1, 2, 3, 4, 5, 6, 7, 8, 9] rfl rfl (Nat.le_of_ble_eq_true rfl) (Nat.le_of_ble_eq_true rfl) ⟨(show iR (i 58) 0 19 from (hI 58)), (show iR y_51p6 1 20 from f_51p6_3), (show aR (upd f49 r_38p6.toNatClampNeg (f49 0)) 0 1023 from (aR_upd _ hf49 (show iR (f49 0) 0 1023 from hf49 _))), (show aR (upd f50 r_38p6.toNatClampNeg (f50 0)) 0 999 from (aR_upd _ hf50 (show iR (f50 0) 0 999 from hf50 _))), (show aR (upd f53 r_38p6.toNatClampNeg (f53 0)) 0 50 from (aR_upd _ hf53 (show iR (f53 0) 0 50 from hf53 _)))⟩
  · have c_6 : (i 59) = 20 := c_6
    have f_9_2 : iR (i 59) 20 20 := iR_eqL c_6 f_1_1 (iR_c (n := 20) (a := 20) (b := 20) (by decide +kernel) (by decide +kernel)) (by decide +kernel)
    refine lv_aload_n hx hb dX7_keeps_9 rfl (lv_at hl 0 rfl) ?_
    refine lv_aload_n hx hb dX7_keeps_10 rfl (lv_at hl 0 rfl) ?_
    have f_11_3 : iR (i 58) 0 19 := hI 58
    refine k_get (D := (dC, dI)) (ci := 7) (v := .int (i 58)) (C := RX7) (T := TX7) (N := 92) hx hb hts hinX7 hown hK hP 0 rfl rfl 58 (by decide) w_1 rfl rfl dX7_keeps_11 ?_
    refine lv_iconst (v := 1) hx hb dX7_keeps_14 (by decide +kernel) ?_
    refine lv_iadd hx hb dX7_keeps_15 ?_
    refine lv_topi (fun y_15 ey_15 => ?_)
    have f_15_4 : iR y_15 1 20 := iR_add ey_15 f_11_3 (iR_c (n := 1) (a := 1) (b := 1) (by decide +kernel) (by decide +kernel)) (by decide +kernel)
    refine lv_bipush (v := 20) hx hb dX7_keeps_16 (by decide +kernel) ?_
    refine lv_irem hx hb dX7_keeps_18 (i_nz (iR_c (n := 20) (a := 20) (b := 20) (by decide +kernel) (by decide +kernel)) (by decide +kernel)) ?_
    refine lv_topi (fun y_18 ey_18 => ?_)
    have f_18_5 : iR y_18 0 19 := iR_rem ey_18 f_15_4 (iR_c (n := 20) (a := 20) (b := 20) (by decide +kernel) (by decide +kernel)) (by decide +kernel)
    refine k_put (D := (dC, dI)) (ci := 7) (v := .int y_18) (C := RX7) (T := TX7) (N := 92) (ws' := [(h, .inr (7, oM r (upd i 58 y_18) j)), ((r 49), .inl (cI, 22, .inl f49)), ((r 50), .inl (cI, 22, .inl f50)), ((r 51), .inl (cI, 22, .inl f51)), ((r 52), .inl (cI, 22, .inl f52)), ((r 53), .inl (cI, 22, .inl f53)), ((r 54), .inl (cI, 1100, .inl f54)), ((r 55), .inl (cI, 1100, .inl f55)), ((r 56), .inl (cI, 1100, .inl f56)), ((r 57), .inl (cI, 1100, .inl f57))]) hx hb hts hinX7 tyX7 tyX7_ok nmX7 hown hK hP hD hS 0 rfl rfl 58 (by decide) w_1 rfl rfl rfl rfl (Nat.le_of_ble_eq_true rfl) rfl dX7_keeps_19 (fun H locs hP hD hS => ?_)
    refine lv_aload_n hx hb dX7_keeps_22 rfl (lv_at hl 0 rfl) ?_
    refine lv_dup hx hb dX7_keeps_23 rfl ?_
    refine k_get (D := (dC, dI)) (ci := 7) (v := .int (i 59)) (C := RX7) (T := TX7) (N := 92) hx hb hts hinX7 hown hK hP 0 rfl rfl 59 (by decide) w_0 rfl rfl dX7_keeps_24 ?_
    refine lv_iconst (v := 1) hx hb dX7_keeps_27 (by decide +kernel) ?_
    refine lv_isub hx hb dX7_keeps_28 ?_
    refine lv_topi (fun y_28 ey_28 => ?_)
    have f_28_6 : iR y_28 19 19 := iR_sub ey_28 f_9_2 (iR_c (n := 1) (a := 1) (b := 1) (by decide +kernel) (by decide +kernel)) (by decide +kernel)
    refine k_put (D := (dC, dI)) (ci := 7) (v := .int y_28) (C := RX7) (T := TX7) (N := 92) (ws' := [(h, .inr (7, oM r (upd (upd i 58 y_18) 59 y_28) j)), ((r 49), .inl (cI, 22, .inl f49)), ((r 50), .inl (cI, 22, .inl f50)), ((r 51), .inl (cI, 22, .inl f51)), ((r 52), .inl (cI, 22, .inl f52)), ((r 53), .inl (cI, 22, .inl f53)), ((r 54), .inl (cI, 1100, .inl f54)), ((r 55), .inl (cI, 1100, .inl f55)), ((r 56), .inl (cI, 1100, .inl f56)), ((r 57), .inl (cI, 1100, .inl f57))]) hx hb hts hinX7 tyX7 tyX7_ok nmX7 hown hK hP hD hS 0 rfl rfl 59 (by decide) w_0 rfl rfl rfl rfl (Nat.le_of_ble_eq_true rfl) rfl dX7_keeps_29 (fun H locs hP hD hS => ?_)
    refine lv_aload_n hx hb dX7_keeps_32 rfl (lv_at hl 0 rfl) ?_
    refine lv_aload_n hx hb dX7_keeps_33 rfl (lv_at hl 0 rfl) ?_
    refine lv_aload_n hx hb dX7_keeps_34 rfl (lv_at hl 0 rfl) ?_
    refine k_get (D := (dC, dI)) (ci := 7) (v := .int y_28) (C := RX7) (T := TX7) (N := 92) hx hb hts hinX7 hown hK hP 0 rfl rfl 59 (by decide) w_0 rfl rfl dX7_keeps_35 ?_
    refine k_ci (wc := [(h, .inr (7, oM r (upd (upd i 58 y_18) 59 y_28) j))]) (wr := [((r 49), .inl (cI, 22, .inl f49)), ((r 50), .inl (cI, 22, .inl f50)), ((r 51), .inl (cI, 22, .inl f51)), ((r 52), .inl (cI, 22, .inl f52)), ((r 53), .inl (cI, 22, .inl f53)), ((r 54), .inl (cI, 1100, .inl f54)), ((r 55), .inl (cI, 1100, .inl f55)), ((r 56), .inl (cI, 1100, .inl f56)), ((r 57), .inl (cI, 1100, .inl f57))]) (fun hPc hDc hFc => va_runV (As := [.int y_28]) (rest := [.ref h]) ⟨hx, hb, hml, hown, hts⟩ (s_X7_ring_v1 l dC dI cI cJ cZ cM h r (upd (upd i 58 y_18) 59 y_28) j y_28 (iR_w f_28_6 (by decide +kernel)) (mR_upd 59 (mR_upd 58 hI (show iR _ (loI 58) (hiI 58) from f_18_5)) (show iR _ (loI 59) (hiI 59) from (iR_w f_28_6 (by decide +kernel)))) H.size) (cwV 1 hts gX7_keeps_X7_ring rfl rfl rfl (by decide +kernel) ⟨(Nat.le_of_ble_eq_true rfl), (Nat.le_of_ble_eq_true rfl)⟩) (k_pV hPc hDc hK hN hC hS hFc hP (q0 := 0) (ci := 7) rfl rfl) rfl rfl hl.1 rfl (lv_room (Nat.le_of_ble_eq_true rfl)) dX7_keeps_38 ⟨(Nat.le_of_ble_eq_true rfl), (Nat.le_of_ble_eq_true rfl)⟩) hP hD hS hA [0] [1, 2, 3, 4, 5, 6, 7, 8, 9] rfl rfl rfl rfl (by decide) (fun _ => rfl) 0 0 rfl rfl (fun r_38p29 u_38p29 H locs hw hP hD hS => ?_)
    have g_38p29_0 := hw
    have hP : va_P (dC, dI) vwCl [((r 49), .inl (cI, 22, .inl f49)), ((r 50), .inl (cI, 22, .inl f50)), ((r 51), .inl (cI, 22, .inl f51)), ((r 52), .inl (cI, 22, .inl f52)), ((r 53), .inl (cI, 22, .inl f53)), ((r 54), .inl (cI, 1100, .inl f54)), ((r 55), .inl (cI, 1100, .inl f55)), ((r 56), .inl (cI, 1100, .inl f56)), ((r 57), .inl (cI, 1100, .inl f57)), (h, .inr (7, oM r (upd (upd i 58 y_18) 59 y_28) j))] H := hP
    have hD : va_D A [((r 49), .inl (cI, 22, .inl f49)), ((r 50), .inl (cI, 22, .inl f50)), ((r 51), .inl (cI, 22, .inl f51)), ((r 52), .inl (cI, 22, .inl f52)), ((r 53), .inl (cI, 22, .inl f53)), ((r 54), .inl (cI, 1100, .inl f54)), ((r 55), .inl (cI, 1100, .inl f55)), ((r 56), .inl (cI, 1100, .inl f56)), ((r 57), .inl (cI, 1100, .inl f57)), (h, .inr (7, oM r (upd (upd i 58 y_18) 59 y_28) j))] := hD
    refine lv_iconst (v := 0) hx hb dX7_keeps_41 (by decide +kernel) ?_
    refine k_cv (wc := [(h, .inr (7, oM r (upd (upd i 58 y_18) 59 y_28) j)), ((r 49), .inl (cI, 22, .inl f49)), ((r 50), .inl (cI, 22, .inl f50)), ((r 51), .inl (cI, 22, .inl f51)), ((r 52), .inl (cI, 22, .inl f52)), ((r 53), .inl (cI, 22, .inl f53)), ((r 54), .inl (cI, 1100, .inl f54)), ((r 55), .inl (cI, 1100, .inl f55)), ((r 56), .inl (cI, 1100, .inl f56)), ((r 57), .inl (cI, 1100, .inl f57))]) (wr := []) (fun hPc hDc hFc => va_runV (As := [.int r_38p29, .int 0]) (rest := []) ⟨hx, hb, hml, hown, hts⟩ (s_X7_copies_v1 l dC dI cI cJ cZ cM h r (upd (upd i 58 y_18) 59 y_28) j r_38p29 0 f49 f50 f51 f52 f53 f54 f55 f56 f57 (iR_w g_38p29_0 (by decide +kernel)) (iR_c (n := 0) (a := 0) (b := 21) (by decide +kernel) (by decide +kernel)) (mR_upd 59 (mR_upd 58 hI (show iR _ (loI 58) (hiI 58) from f_18_5)) (show iR _ (loI 59) (hiI 59) from (iR_w f_28_6 (by decide +kernel)))) hf49 hf50 hf53 H.size) (cwV 2 hts gX7_keeps_X7_copies rfl rfl rfl (by decide +kernel) ⟨(Nat.le_of_ble_eq_true rfl), (Nat.le_of_ble_eq_true rfl)⟩) (k_pV hPc hDc hK hN hC hS hFc hP (q0 := 9) (ci := 7) rfl rfl) rfl rfl hl.1 rfl (lv_room (Nat.le_of_ble_eq_true rfl)) dX7_keeps_42 ⟨(Nat.le_of_ble_eq_true rfl), (Nat.le_of_ble_eq_true rfl)⟩) hP hD hS hA [9, 0, 1, 2, 3, 4, 5, 6, 7, 8] [] rfl rfl rfl rfl (by decide) (fun _ => rfl) 0 0 rfl rfl (fun u_42p29 H locs hw hP hD hS => ?_)
    have hP : va_P (dC, dI) vwCl [(h, .inr (7, oM r (upd (upd i 58 y_18) 59 y_28) j)), ((r 49), .inl (cI, 22, .inl (upd f49 r_38p29.toNatClampNeg (f49 0)))), ((r 50), .inl (cI, 22, .inl (upd f50 r_38p29.toNatClampNeg (f50 0)))), ((r 51), .inl (cI, 22, .inl (upd f51 r_38p29.toNatClampNeg (f51 0)))), ((r 52), .inl (cI, 22, .inl (upd f52 r_38p29.toNatClampNeg (f52 0)))), ((r 53), .inl (cI, 22, .inl (upd f53 r_38p29.toNatClampNeg (f53 0)))), ((r 54), .inl (cI, 1100, .inl (u_42p29.2.2.1 0))), ((r 55), .inl (cI, 1100, .inl (u_42p29.2.2.1 1))), ((r 56), .inl (cI, 1100, .inl (u_42p29.2.2.1 2))), ((r 57), .inl (cI, 1100, .inl (u_42p29.2.2.1 3)))] H := hP
    have hD : va_D A [(h, .inr (7, oM r (upd (upd i 58 y_18) 59 y_28) j)), ((r 49), .inl (cI, 22, .inl (upd f49 r_38p29.toNatClampNeg (f49 0)))), ((r 50), .inl (cI, 22, .inl (upd f50 r_38p29.toNatClampNeg (f50 0)))), ((r 51), .inl (cI, 22, .inl (upd f51 r_38p29.toNatClampNeg (f51 0)))), ((r 52), .inl (cI, 22, .inl (upd f52 r_38p29.toNatClampNeg (f52 0)))), ((r 53), .inl (cI, 22, .inl (upd f53 r_38p29.toNatClampNeg (f53 0)))), ((r 54), .inl (cI, 1100, .inl (u_42p29.2.2.1 0))), ((r 55), .inl (cI, 1100, .inl (u_42p29.2.2.1 1))), ((r 56), .inl (cI, 1100, .inl (u_42p29.2.2.1 2))), ((r 57), .inl (cI, 1100, .inl (u_42p29.2.2.1 3)))] := hD
    refine lv_aload_n hx hb dX7_keeps_45 rfl (lv_at hl 0 rfl) ?_
    refine lv_dup hx hb dX7_keeps_46 rfl ?_
    refine k_get (D := (dC, dI)) (ci := 7) (v := .int y_28) (C := RX7) (T := TX7) (N := 92) hx hb hts hinX7 hown hK hP 0 rfl rfl 59 (by decide) w_0 rfl rfl dX7_keeps_47 ?_
    refine lv_iconst (v := 1) hx hb dX7_keeps_50 (by decide +kernel) ?_
    refine lv_iadd hx hb dX7_keeps_51 ?_
    refine lv_topi (fun y_51p29 ey_51p29 => ?_)
    have f_51p29_7 : iR y_51p29 20 20 := iR_add ey_51p29 f_28_6 (iR_c (n := 1) (a := 1) (b := 1) (by decide +kernel) (by decide +kernel)) (by decide +kernel)
    refine k_put (D := (dC, dI)) (ci := 7) (v := .int y_51p29) (C := RX7) (T := TX7) (N := 92) (ws' := [(h, .inr (7, oM r (upd (upd i 58 y_18) 59 y_51p29) j)), ((r 49), .inl (cI, 22, .inl (upd f49 r_38p29.toNatClampNeg (f49 0)))), ((r 50), .inl (cI, 22, .inl (upd f50 r_38p29.toNatClampNeg (f50 0)))), ((r 51), .inl (cI, 22, .inl (upd f51 r_38p29.toNatClampNeg (f51 0)))), ((r 52), .inl (cI, 22, .inl (upd f52 r_38p29.toNatClampNeg (f52 0)))), ((r 53), .inl (cI, 22, .inl (upd f53 r_38p29.toNatClampNeg (f53 0)))), ((r 54), .inl (cI, 1100, .inl (u_42p29.2.2.1 0))), ((r 55), .inl (cI, 1100, .inl (u_42p29.2.2.1 1))), ((r 56), .inl (cI, 1100, .inl (u_42p29.2.2.1 2))), ((r 57), .inl (cI, 1100, .inl (u_42p29.2.2.1 3)))]) hx hb hts hinX7 tyX7 tyX7_ok nmX7 hown hK hP hD hS 0 rfl rfl 59 (by decide) w_0 rfl rfl rfl rfl (Nat.le_of_ble_eq_true rfl) rfl dX7_keeps_52 (fun H locs hP hD hS => ?_)
    exact k_rv B hP hD hS dX7_keeps_55 ((fun k9 => match k9 with | 0 => y_18 | 1 => y_51p29 | _ => 0), (fun _ => 0), (fun k9 => match k9 with | 0 => (upd f49 r_38p29.toNatClampNeg (f49 0)) | 1 => (upd f50 r_38p29.toNatClampNeg (f50 0)) | 2 => (upd f51 r_38p29.toNatClampNeg (f51 0)) | 3 => (upd f52 r_38p29.toNatClampNeg (f52 0)) | 4 => (upd f53 r_38p29.toNatClampNeg (f53 0)) | 5 => (u_42p29.2.2.1 0) | 6 => (u_42p29.2.2.1 1) | 7 => (u_42p29.2.2.1 2) | 8 => (u_42p29.2.2.1 3) | _ => (fun _ => 0)), (fun _ => (fun _ => 0)), (fun _ => 0)) [0, 1, 2, 3, 4, 5, 6, 7, 8, 9] rfl rfl (Nat.le_of_ble_eq_true rfl) (Nat.le_of_ble_eq_true rfl) ⟨(show iR y_18 0 19 from f_18_5), (show iR y_51p29 1 20 from (iR_w f_51p29_7 (by decide +kernel))), (show aR (upd f49 r_38p29.toNatClampNeg (f49 0)) 0 1023 from (aR_upd _ hf49 (show iR (f49 0) 0 1023 from hf49 _))), (show aR (upd f50 r_38p29.toNatClampNeg (f50 0)) 0 999 from (aR_upd _ hf50 (show iR (f50 0) 0 999 from hf50 _))), (show aR (upd f53 r_38p29.toNatClampNeg (f53 0)) 0 50 from (aR_upd _ hf53 (show iR (f53 0) 0 50 from hf53 _)))⟩
set_option maxHeartbeats 8000000 in
set_option maxRecDepth 100000 in
theorem s_X7_briefOnes_v2 (l : Launch) (dC : Nat → ClassId) (dI : Nat → Nat → Nat) (cI cJ cZ cM : ClassId) (h : Nat) (r : Nat → Nat) (i : Nat → Int32) (j : Nat → Int64) (f14 : Nat → Int32) (f17 : Nat → Int32) (hI : mR i) (hf14 : aR f14 0 10) (hf17 : aR f17 0 1) : k_Mi l yX7_briefOnes wsX7_briefOnes ({ frames := 1, cells := 0, slots := 0, locals := 40 }) (dC, dI) vwCl (tyy cI cJ cZ cM) [(h, .inr (7, oM r i j)), ((r 14), .inl (cI, 2, .inl f14)), ((r 17), .inl (cI, 20, .inl f17))] [.ref h] 0 0 (fun (u9 : Unit) => [(h, .inr (7, oM r i j)), ((r 14), .inl (cI, 2, .inl f14)), ((r 17), .inl (cI, 20, .inl f17))]) (fun (r9 : Int32) (u9 : Unit) => (iR r9 0 1023)) := by
  refine fun sz => k_enter (cc := cX7_briefOnes) (maxL := 3) (ret := some (.int)) (Qc := fun A => va_Qi (fun (r9 : Int32) (u9 : Unit) => (iR r9 0 1023)) (fun u => k_B (dC, dI) vwCl (tyy cI cJ cZ cM) A ((fun (u9 : Unit) => [(h, .inr (7, oM r i j)), ((r 14), .inl (cI, 2, .inl f14)), ((r 17), .inl (cI, 20, .inl f17))]) u)) A) sz (by decide +kernel) rfl (Nat.le_of_ble_eq_true rfl) (fun p e s m args below meth c A ls H locs B hP hD hS hl => ?_)
  obtain ⟨hx, hb, hml, hown, hts, hr, hlk, hnm, hK, hA, hN, hC⟩ := id B
  have hown : s.vm.findClass RX7 = some m.cls := hown
  have hl : lv_has ls 3 [(0, .ref h)] := hl
  have w_0 : (Cond.fieldLink RX7 54 "WishSeaModel" "things" "[I").before args s = true := hts _ (List.mem_of_getElem? (i := 1) rfl)
  have w_1 : (Cond.fieldLink RX7 51 "WishSeaModel" "bank" "I").before args s = true := hts _ (List.mem_of_getElem? (i := 2) rfl)
  have w_2 : (Cond.fieldLink RX7 63 "WishSeaModel" "thingBrief" "[I").before args s = true := hts _ (List.mem_of_getElem? (i := 3) rfl)
  have hinX7 : ∀ w ∈ u_ws RX7 TX7 92, w ∈ wsX7_briefOnes := fun _ h => List.mem_cons_of_mem _ (List.mem_append_right _ h)
  refine lv_iconst (v := 0) hx hb dX7_briefOnes_0 (by decide +kernel) ?_
  refine lv_istore_n (lv' := [(1, .int 0), (0, .ref h)]) hx hb dX7_briefOnes_1 rfl hl (by decide) rfl (fun ls hl => ?_)
  refine lv_iconst (v := 0) hx hb dX7_briefOnes_2 (by decide +kernel) ?_
  have J_4 : ∀ (n_4 : Nat) (j4_L1 : Int32) (j4_L2 : Int32) (hj4_L1 : iR j4_L1 0 1023) (hj4_L2 : iR j4_L2 0 10) (hm_4 : (10 - j4_L2.toInt).toNat < n_4) (H : Heap) (locs : List Loc) (ls : Array Slot), va_P (dC, dI) vwCl [(h, .inr (7, oM r i j)), ((r 14), .inl (cI, 2, .inl f14)), ((r 17), .inl (cI, 20, .inl f17))] H → va_D A [(h, .inr (7, oM r i j)), ((r 14), .inl (cI, 2, .inl f14)), ((r 17), .inl (cI, 20, .inl f17))] → va_S A s.heap H locs → lv_has ls 3 [(0, .ref h), (1, .int j4_L1), (2, .int j4_L2)] → W p l e ({ frames := 1, cells := 0, slots := 0, locals := 40 }) s m args below meth c H locs 0 0 (MQ below (va_Qi (fun (r9 : Int32) (u9 : Unit) => (iR r9 0 1023)) (fun u => k_B (dC, dI) vwCl (tyy cI cJ cZ cM) A ((fun (u9 : Unit) => [(h, .inr (7, oM r i j)), ((r 14), .inl (cI, 2, .inl f14)), ((r 17), .inl (cI, 20, .inl f17))]) u)) A) args s 0 0 A) (F0 m 4 ls []) := by
    intro n_4
    induction n_4 with
    | zero => intro j4_L1 j4_L2 hj4_L1 hj4_L2 hm_4; exact absurd hm_4 (Nat.not_lt_zero _)
    | succ n_4 ih_4 =>
      intro j4_L1 j4_L2 hj4_L1 hj4_L2 hm_4 H locs ls hP hD hS hl
      refine lv_iload_n hx hb dX7_briefOnes_4 rfl (lv_at hl 2 rfl) ?_
      refine lv_aload_n hx hb dX7_briefOnes_5 rfl (lv_at hl 0 rfl) ?_
      refine k_get (D := (dC, dI)) (ci := 7) (v := .ref (r 14)) (C := RX7) (T := TX7) (N := 92) hx hb hts hinX7 hown hK hP 0 rfl rfl 14 (by decide) w_0 rfl rfl dX7_briefOnes_6 ?_
      refine lv_aload_n hx hb dX7_briefOnes_9 rfl (lv_at hl 0 rfl) ?_
      have f_10_1 : iR (i 13) 0 1 := hI 13
      refine k_get (D := (dC, dI)) (ci := 7) (v := .int (i 13)) (C := RX7) (T := TX7) (N := 92) hx hb hts hinX7 hown hK hP 0 rfl rfl 13 (by decide) w_1 rfl rfl dX7_briefOnes_10 ?_
      refine va_iald hx hb hK hP 1 0 rfl rfl (iR_vp f_10_1 (by decide +kernel)) dX7_briefOnes_13 ?_
      have f_13_2 : iR (f14 (i 13).toNatClampNeg) 0 10 := hf14 _
      refine lv_icmp_ge (tgt := 42) hx hb dX7_briefOnes_14 (by decide) (fun c_14 => ?_) (fun c_14 => ?_)
      · have c_14 : (f14 (i 13).toNatClampNeg) ≤ j4_L2 := c_14
        refine lv_iload_n hx hb dX7_briefOnes_42 rfl (lv_at hl 1 rfl) ?_
        exact k_ri B hP hD hS dX7_briefOnes_43 () [0, 1, 2] rfl rfl rfl (Nat.le_of_ble_eq_true rfl) (Nat.le_of_ble_eq_true rfl) (show iR j4_L1 0 1023 from hj4_L1)
      · have c_14 : j4_L2 < (f14 (i 13).toNatClampNeg) := i_nle c_14
        have f_17_3 : iR j4_L2 0 9 := iR_ltL c_14 hj4_L2 f_13_2 (by decide +kernel)
        have f_17_4 : iR (f14 (i 13).toNatClampNeg) 1 10 := iR_ltR c_14 hj4_L2 f_13_2 (by decide +kernel)
        refine lv_iload_n hx hb dX7_briefOnes_17 rfl (lv_at hl 1 rfl) ?_
        refine lv_aload_n hx hb dX7_briefOnes_18 rfl (lv_at hl 0 rfl) ?_
        refine k_get (D := (dC, dI)) (ci := 7) (v := .ref (r 17)) (C := RX7) (T := TX7) (N := 92) hx hb hts hinX7 hown hK hP 0 rfl rfl 17 (by decide) w_2 rfl rfl dX7_briefOnes_19 ?_
        refine lv_bipush (v := 10) hx hb dX7_briefOnes_22 (by decide +kernel) ?_
        refine lv_aload_n hx hb dX7_briefOnes_24 rfl (lv_at hl 0 rfl) ?_
        refine k_get (D := (dC, dI)) (ci := 7) (v := .int (i 13)) (C := RX7) (T := TX7) (N := 92) hx hb hts hinX7 hown hK hP 0 rfl rfl 13 (by decide) w_1 rfl rfl dX7_briefOnes_25 ?_
        refine lv_imul hx hb dX7_briefOnes_28 ?_
        refine lv_topi (fun y_28 ey_28 => ?_)
        have f_28_5 : iR y_28 0 10 := iR_mul ey_28 (iR_c (n := 10) (a := 10) (b := 10) (by decide +kernel) (by decide +kernel)) f_10_1 (by decide +kernel)
        refine lv_iload_n hx hb dX7_briefOnes_29 rfl (lv_at hl 2 rfl) ?_
        refine lv_iadd hx hb dX7_briefOnes_30 ?_
        refine lv_topi (fun y_30 ey_30 => ?_)
        have f_30_6 : iR y_30 0 19 := iR_add ey_30 f_28_5 f_17_3 (by decide +kernel)
        refine va_iald hx hb hK hP 2 0 rfl rfl (iR_vp f_30_6 (by decide +kernel)) dX7_briefOnes_31 ?_
        have f_31_7 : iR (f17 y_30.toNatClampNeg) 0 1 := hf17 _
        refine lv_iload_n hx hb dX7_briefOnes_32 rfl (lv_at hl 2 rfl) ?_
        refine lv_ishl hx hb dX7_briefOnes_33 ?_
        refine lv_topi (fun y_33 ey_33 => ?_)
        have f_33_8 : iR y_33 0 512 := iR_shl 9 ey_33 f_31_7 f_17_3 (by decide +kernel)
        refine lv_ior hx hb dX7_briefOnes_34 ?_
        refine lv_topi (fun y_34 ey_34 => ?_)
        have f_34_9 : iR y_34 0 1023 := iR_or 10 ey_34 hj4_L1 f_33_8 (by decide +kernel)
        refine lv_istore_n (lv' := [(1, .int y_34), (0, .ref h), (2, .int j4_L2)]) hx hb dX7_briefOnes_35 rfl hl (by decide) rfl (fun ls hl => ?_)
        obtain ⟨y_36, ey_36⟩ : ∃ y : Int32, y = j4_L2 + 1 := ⟨_, rfl⟩
        refine lv_iinc (v := y_36) (lv' := [(2, .int y_36), (1, .int y_34), (0, .ref h)]) hx hb dX7_briefOnes_36 hl (k := 2) rfl ey_36.symm (by decide) rfl (fun ls hl => ?_)
        have f_36_10 : iR y_36 1 10 := iR_add ey_36 f_17_3 (iR_c (n := 1) (a := 1) (b := 1) (by decide +kernel) (by decide +kernel)) (by decide +kernel)
        refine lv_goto (tgt := 4) hx hb dX7_briefOnes_39 (by decide) ?_
        exact ih_4 y_34 y_36 f_34_9 (iR_w f_36_10 (by decide +kernel)) (m_up (B := 10) hm_4 ey_36 f_17_3 (by decide +kernel)) H locs ls hP hD hS (lv_sub hl [2, 1, 0] rfl)
  refine lv_istore_n (lv' := [(2, .int 0), (1, .int 0), (0, .ref h)]) hx hb dX7_briefOnes_3 rfl hl (by decide) rfl (fun ls hl => ?_)
  exact J_4 _ 0 0 (iR_c (n := 0) (a := 0) (b := 1023) (by decide +kernel) (by decide +kernel)) (iR_c (n := 0) (a := 0) (b := 10) (by decide +kernel) (by decide +kernel)) (Nat.lt_succ_self _) H locs ls hP hD hS (lv_sub hl [2, 1, 0] rfl)
set_option maxHeartbeats 8000000 in
set_option maxRecDepth 100000 in
theorem s_X7_dayEnds_v1 (l : Launch) (dC : Nat → ClassId) (dI : Nat → Nat → Nat) (cI cJ cZ cM : ClassId) (h : Nat) (r : Nat → Nat) (i : Nat → Int32) (j : Nat → Int64) (x1 : Int32) (f14 : Nat → Int32) (f17 : Nat → Int32) (f31 : Nat → Int32) (f49 : Nat → Int32) (f50 : Nat → Int32) (f51 : Nat → Int32) (f52 : Nat → Int32) (hx1 : iR x1 0 21) (hI : mR i) (hf14 : aR f14 0 10) (hf17 : aR f17 0 1) (hf31 : aR f31 0 999) (hf49 : aR f49 0 1023) (hf50 : aR f50 0 999) : k_Mv l yX7_dayEnds wsX7_dayEnds ({ frames := 2, cells := 0, slots := 0, locals := 62 }) (dC, dI) vwCl (tyy cI cJ cZ cM) [(h, .inr (7, oM r i j)), ((r 14), .inl (cI, 2, .inl f14)), ((r 17), .inl (cI, 20, .inl f17)), ((r 31), .inl (cI, 2, .inl f31)), ((r 49), .inl (cI, 22, .inl f49)), ((r 50), .inl (cI, 22, .inl f50)), ((r 51), .inl (cI, 22, .inl f51)), ((r 52), .inl (cI, 22, .inl f52))] [.ref h, .int x1] 0 0 (fun (u9 : SU) => [(h, .inr (7, oM r i j)), ((r 14), .inl (cI, 2, .inl f14)), ((r 17), .inl (cI, 20, .inl f17)), ((r 31), .inl (cI, 2, .inl f31)), ((r 49), .inl (cI, 22, .inl (u9.2.2.1 0))), ((r 50), .inl (cI, 22, .inl (u9.2.2.1 1))), ((r 51), .inl (cI, 22, .inl (upd f51 x1.toNatClampNeg 0))), ((r 52), .inl (cI, 22, .inl (u9.2.2.1 2)))]) (fun (u9 : SU) => (aR (u9.2.2.1 0) 0 1023) ∧ (aR (u9.2.2.1 1) 0 999)) := by
  refine fun sz => k_enter (cc := cX7_dayEnds) (maxL := 2) (ret := none) (Qc := fun A => va_Qv (fun (u9 : SU) => (aR (u9.2.2.1 0) 0 1023) ∧ (aR (u9.2.2.1 1) 0 999)) (fun u => k_B (dC, dI) vwCl (tyy cI cJ cZ cM) A ((fun (u9 : SU) => [(h, .inr (7, oM r i j)), ((r 14), .inl (cI, 2, .inl f14)), ((r 17), .inl (cI, 20, .inl f17)), ((r 31), .inl (cI, 2, .inl f31)), ((r 49), .inl (cI, 22, .inl (u9.2.2.1 0))), ((r 50), .inl (cI, 22, .inl (u9.2.2.1 1))), ((r 51), .inl (cI, 22, .inl (upd f51 x1.toNatClampNeg 0))), ((r 52), .inl (cI, 22, .inl (u9.2.2.1 2)))]) u)) A) sz (by decide +kernel) rfl (Nat.le_of_ble_eq_true rfl) (fun p e s m args below meth c A ls H locs B hP hD hS hl => ?_)
  obtain ⟨hx, hb, hml, hown, hts, hr, hlk, hnm, hK, hA, hN, hC⟩ := id B
  have hown : s.vm.findClass RX7 = some m.cls := hown
  have hl : lv_has ls 2 [(0, .ref h), (1, .int x1)] := hl
  have w_0 : (Cond.fieldLink RX7 162 "WishSeaModel" "hadOf" "[I").before args s = true := hts _ (List.mem_of_getElem? (i := 1) rfl)
  have w_1 : (Cond.fieldLink RX7 165 "WishSeaModel" "seaOf" "[I").before args s = true := hts _ (List.mem_of_getElem? (i := 2) rfl)
  have w_2 : (Cond.fieldLink RX7 105 "WishSeaModel" "calming" "[I").before args s = true := hts _ (List.mem_of_getElem? (i := 3) rfl)
  have w_3 : (Cond.fieldLink RX7 51 "WishSeaModel" "bank" "I").before args s = true := hts _ (List.mem_of_getElem? (i := 4) rfl)
  have w_4 : (Cond.fieldLink RX7 168 "WishSeaModel" "saidOf" "[I").before args s = true := hts _ (List.mem_of_getElem? (i := 5) rfl)
  have w_5 : (Cond.fieldLink RX7 171 "WishSeaModel" "dayOf" "[I").before args s = true := hts _ (List.mem_of_getElem? (i := 6) rfl)
  have hinX7 : ∀ w ∈ u_ws RX7 TX7 92, w ∈ wsX7_dayEnds := fun _ h => List.mem_cons_of_mem _ (List.mem_append_right _ h)
  refine lv_aload_n hx hb dX7_dayEnds_0 rfl (lv_at hl 0 rfl) ?_
  refine k_get (D := (dC, dI)) (ci := 7) (v := .ref (r 49)) (C := RX7) (T := TX7) (N := 92) hx hb hts hinX7 hown hK hP 0 rfl rfl 49 (by decide) w_0 rfl rfl dX7_dayEnds_1 ?_
  refine lv_iload_n hx hb dX7_dayEnds_4 rfl (lv_at hl 1 rfl) ?_
  refine lv_dup2_11 hx hb dX7_dayEnds_5 rfl rfl ?_
  refine va_iald hx hb hK hP 4 0 rfl rfl (iR_vp hx1 (by decide +kernel)) dX7_dayEnds_6 ?_
  have f_6_1 : iR (f49 x1.toNatClampNeg) 0 1023 := hf49 _
  refine lv_aload_n hx hb dX7_dayEnds_7 rfl (lv_at hl 0 rfl) ?_
  refine k_ci (wc := [(h, .inr (7, oM r i j)), ((r 14), .inl (cI, 2, .inl f14)), ((r 17), .inl (cI, 20, .inl f17))]) (wr := [((r 31), .inl (cI, 2, .inl f31)), ((r 49), .inl (cI, 22, .inl f49)), ((r 50), .inl (cI, 22, .inl f50)), ((r 51), .inl (cI, 22, .inl f51)), ((r 52), .inl (cI, 22, .inl f52))]) (fun hPc hDc hFc => va_runV (As := []) (rest := [.int (f49 x1.toNatClampNeg), .int x1, .ref (r 49)]) ⟨hx, hb, hml, hown, hts⟩ (s_X7_briefOnes_v1 l dC dI cI cJ cZ cM h r i j f14 f17 hI hf14 hf17 H.size) (cwV 0 hts gX7_dayEnds_X7_briefOnes rfl rfl rfl (by decide +kernel) ⟨(Nat.le_of_ble_eq_true rfl), (Nat.le_of_ble_eq_true rfl)⟩) (k_pV hPc hDc hK hN hC hS hFc hP (q0 := 0) (ci := 7) rfl rfl) rfl rfl hl.1 rfl (lv_room (Nat.le_of_ble_eq_true rfl)) dX7_dayEnds_8 ⟨(Nat.le_of_ble_eq_true rfl), (Nat.le_of_ble_eq_true rfl)⟩) hP hD hS hA [0, 1, 2] [3, 4, 5, 6, 7] rfl rfl rfl rfl (by decide) (fun _ => rfl) 0 0 rfl rfl (fun r_8 u_8 H locs hw hP hD hS => ?_)
  have g_8_0 := hw
  have hP : va_P (dC, dI) vwCl [((r 31), .inl (cI, 2, .inl f31)), ((r 49), .inl (cI, 22, .inl f49)), ((r 50), .inl (cI, 22, .inl f50)), ((r 51), .inl (cI, 22, .inl f51)), ((r 52), .inl (cI, 22, .inl f52)), (h, .inr (7, oM r i j)), ((r 14), .inl (cI, 2, .inl f14)), ((r 17), .inl (cI, 20, .inl f17))] H := hP
  have hD : va_D A [((r 31), .inl (cI, 2, .inl f31)), ((r 49), .inl (cI, 22, .inl f49)), ((r 50), .inl (cI, 22, .inl f50)), ((r 51), .inl (cI, 22, .inl f51)), ((r 52), .inl (cI, 22, .inl f52)), (h, .inr (7, oM r i j)), ((r 14), .inl (cI, 2, .inl f14)), ((r 17), .inl (cI, 20, .inl f17))] := hD
  refine lv_iconst (v := (-1)) hx hb dX7_dayEnds_11 (by decide +kernel) ?_
  refine lv_ixor hx hb dX7_dayEnds_12 ?_
  refine lv_topi (fun y_12 ey_12 => ?_)
  refine lv_iand hx hb dX7_dayEnds_13 ?_
  refine lv_topi (fun y_13 ey_13 => ?_)
  have f_13_2 : iR y_13 0 1023 := iR_andL ey_13 f_6_1 (by decide +kernel)
  refine s_iast (g := (upd f49 x1.toNatClampNeg y_13)) (ws' := [((r 31), .inl (cI, 2, .inl f31)), ((r 49), .inl (cI, 22, .inl (upd f49 x1.toNatClampNeg y_13))), ((r 50), .inl (cI, 22, .inl f50)), ((r 51), .inl (cI, 22, .inl f51)), ((r 52), .inl (cI, 22, .inl f52)), (h, .inr (7, oM r i j)), ((r 14), .inl (cI, 2, .inl f14)), ((r 17), .inl (cI, 20, .inl f17))]) hx hb hK hP hD hS 1 0 rfl rfl (iR_vp hx1 (by decide +kernel)) rfl rfl dX7_dayEnds_14 (fun H locs hP hD hS => ?_)
  refine lv_aload_n hx hb dX7_dayEnds_15 rfl (lv_at hl 0 rfl) ?_
  refine k_get (D := (dC, dI)) (ci := 7) (v := .ref (r 50)) (C := RX7) (T := TX7) (N := 92) hx hb hts hinX7 hown hK hP 5 rfl rfl 50 (by decide) w_1 rfl rfl dX7_dayEnds_16 ?_
  refine lv_iload_n hx hb dX7_dayEnds_19 rfl (lv_at hl 1 rfl) ?_
  refine lv_aload_n hx hb dX7_dayEnds_20 rfl (lv_at hl 0 rfl) ?_
  refine k_get (D := (dC, dI)) (ci := 7) (v := .ref (r 50)) (C := RX7) (T := TX7) (N := 92) hx hb hts hinX7 hown hK hP 5 rfl rfl 50 (by decide) w_1 rfl rfl dX7_dayEnds_21 ?_
  refine lv_iload_n hx hb dX7_dayEnds_24 rfl (lv_at hl 1 rfl) ?_
  refine va_iald hx hb hK hP 2 0 rfl rfl (iR_vp hx1 (by decide +kernel)) dX7_dayEnds_25 ?_
  have f_25_3 : iR (f50 x1.toNatClampNeg) 0 999 := hf50 _
  refine lv_aload_n hx hb dX7_dayEnds_26 rfl (lv_at hl 0 rfl) ?_
  refine k_get (D := (dC, dI)) (ci := 7) (v := .ref (r 31)) (C := RX7) (T := TX7) (N := 92) hx hb hts hinX7 hown hK hP 5 rfl rfl 31 (by decide) w_2 rfl rfl dX7_dayEnds_27 ?_
  refine lv_aload_n hx hb dX7_dayEnds_30 rfl (lv_at hl 0 rfl) ?_
  have f_31_4 : iR (i 13) 0 1 := hI 13
  refine k_get (D := (dC, dI)) (ci := 7) (v := .int (i 13)) (C := RX7) (T := TX7) (N := 92) hx hb hts hinX7 hown hK hP 5 rfl rfl 13 (by decide) w_3 rfl rfl dX7_dayEnds_31 ?_
  refine va_iald hx hb hK hP 0 0 rfl rfl (iR_vp f_31_4 (by decide +kernel)) dX7_dayEnds_34 ?_
  have f_34_5 : iR (f31 (i 13).toNatClampNeg) 0 999 := hf31 _
  have J_58 : ∀ (j58_S0 : Int32) (hj58_S0 : iR j58_S0 0 999) (H : Heap) (locs : List Loc) (ls : Array Slot), va_P (dC, dI) vwCl [(h, .inr (7, oM r i j)), ((r 14), .inl (cI, 2, .inl f14)), ((r 17), .inl (cI, 20, .inl f17)), ((r 31), .inl (cI, 2, .inl f31)), ((r 49), .inl (cI, 22, .inl (upd f49 x1.toNatClampNeg y_13))), ((r 50), .inl (cI, 22, .inl f50)), ((r 51), .inl (cI, 22, .inl f51)), ((r 52), .inl (cI, 22, .inl f52))] H → va_D A [(h, .inr (7, oM r i j)), ((r 14), .inl (cI, 2, .inl f14)), ((r 17), .inl (cI, 20, .inl f17)), ((r 31), .inl (cI, 2, .inl f31)), ((r 49), .inl (cI, 22, .inl (upd f49 x1.toNatClampNeg y_13))), ((r 50), .inl (cI, 22, .inl f50)), ((r 51), .inl (cI, 22, .inl f51)), ((r 52), .inl (cI, 22, .inl f52))] → va_S A s.heap H locs → lv_has ls 2 [(0, .ref h), (1, .int x1)] → W p l e ({ frames := 2, cells := 0, slots := 0, locals := 62 }) s m args below meth c H locs 0 0 (MQ below (va_Qv (fun (u9 : SU) => (aR (u9.2.2.1 0) 0 1023) ∧ (aR (u9.2.2.1 1) 0 999)) (fun u => k_B (dC, dI) vwCl (tyy cI cJ cZ cM) A ((fun (u9 : SU) => [(h, .inr (7, oM r i j)), ((r 14), .inl (cI, 2, .inl f14)), ((r 17), .inl (cI, 20, .inl f17)), ((r 31), .inl (cI, 2, .inl f31)), ((r 49), .inl (cI, 22, .inl (u9.2.2.1 0))), ((r 50), .inl (cI, 22, .inl (u9.2.2.1 1))), ((r 51), .inl (cI, 22, .inl (upd f51 x1.toNatClampNeg 0))), ((r 52), .inl (cI, 22, .inl (u9.2.2.1 2)))]) u)) A) args s 0 0 A) (F0 m 58 ls [.int j58_S0, .int x1, .ref (r 50)]) := by
    intro j58_S0 hj58_S0 H locs ls hP hD hS hl
    refine s_iast (g := (upd f50 x1.toNatClampNeg j58_S0)) (ws' := [(h, .inr (7, oM r i j)), ((r 14), .inl (cI, 2, .inl f14)), ((r 17), .inl (cI, 20, .inl f17)), ((r 31), .inl (cI, 2, .inl f31)), ((r 49), .inl (cI, 22, .inl (upd f49 x1.toNatClampNeg y_13))), ((r 50), .inl (cI, 22, .inl (upd f50 x1.toNatClampNeg j58_S0))), ((r 51), .inl (cI, 22, .inl f51)), ((r 52), .inl (cI, 22, .inl f52))]) hx hb hK hP hD hS 5 0 rfl rfl (iR_vp hx1 (by decide +kernel)) rfl rfl dX7_dayEnds_58 (fun H locs hP hD hS => ?_)
    refine lv_aload_n hx hb dX7_dayEnds_59 rfl (lv_at hl 0 rfl) ?_
    refine k_get (D := (dC, dI)) (ci := 7) (v := .ref (r 51)) (C := RX7) (T := TX7) (N := 92) hx hb hts hinX7 hown hK hP 0 rfl rfl 51 (by decide) w_4 rfl rfl dX7_dayEnds_60 ?_
    refine lv_iload_n hx hb dX7_dayEnds_63 rfl (lv_at hl 1 rfl) ?_
    refine lv_iconst (v := 0) hx hb dX7_dayEnds_64 (by decide +kernel) ?_
    refine s_iast (g := (upd f51 x1.toNatClampNeg 0)) (ws' := [(h, .inr (7, oM r i j)), ((r 14), .inl (cI, 2, .inl f14)), ((r 17), .inl (cI, 20, .inl f17)), ((r 31), .inl (cI, 2, .inl f31)), ((r 49), .inl (cI, 22, .inl (upd f49 x1.toNatClampNeg y_13))), ((r 50), .inl (cI, 22, .inl (upd f50 x1.toNatClampNeg j58_S0))), ((r 51), .inl (cI, 22, .inl (upd f51 x1.toNatClampNeg 0))), ((r 52), .inl (cI, 22, .inl f52))]) hx hb hK hP hD hS 6 0 rfl rfl (iR_vp hx1 (by decide +kernel)) rfl rfl dX7_dayEnds_65 (fun H locs hP hD hS => ?_)
    refine lv_aload_n hx hb dX7_dayEnds_66 rfl (lv_at hl 0 rfl) ?_
    refine k_get (D := (dC, dI)) (ci := 7) (v := .ref (r 52)) (C := RX7) (T := TX7) (N := 92) hx hb hts hinX7 hown hK hP 0 rfl rfl 52 (by decide) w_5 rfl rfl dX7_dayEnds_67 ?_
    refine lv_iload_n hx hb dX7_dayEnds_70 rfl (lv_at hl 1 rfl) ?_
    refine lv_dup2_11 hx hb dX7_dayEnds_71 rfl rfl ?_
    refine va_iald hx hb hK hP 7 0 rfl rfl (iR_vp hx1 (by decide +kernel)) dX7_dayEnds_72 ?_
    refine lv_iconst (v := 1) hx hb dX7_dayEnds_73 (by decide +kernel) ?_
    refine lv_iadd hx hb dX7_dayEnds_74 ?_
    refine lv_topi (fun y_74 ey_74 => ?_)
    refine s_iast (g := (upd f52 x1.toNatClampNeg y_74)) (ws' := [(h, .inr (7, oM r i j)), ((r 14), .inl (cI, 2, .inl f14)), ((r 17), .inl (cI, 20, .inl f17)), ((r 31), .inl (cI, 2, .inl f31)), ((r 49), .inl (cI, 22, .inl (upd f49 x1.toNatClampNeg y_13))), ((r 50), .inl (cI, 22, .inl (upd f50 x1.toNatClampNeg j58_S0))), ((r 51), .inl (cI, 22, .inl (upd f51 x1.toNatClampNeg 0))), ((r 52), .inl (cI, 22, .inl (upd f52 x1.toNatClampNeg y_74)))]) hx hb hK hP hD hS 7 0 rfl rfl (iR_vp hx1 (by decide +kernel)) rfl rfl dX7_dayEnds_75 (fun H locs hP hD hS => ?_)
    exact k_rv B hP hD hS dX7_dayEnds_76 ((fun _ => 0), (fun _ => 0), (fun k9 => match k9 with | 0 => (upd f49 x1.toNatClampNeg y_13) | 1 => (upd f50 x1.toNatClampNeg j58_S0) | 2 => (upd f52 x1.toNatClampNeg y_74) | _ => (fun _ => 0)), (fun _ => (fun _ => 0)), (fun _ => 0)) [0, 1, 2, 3, 4, 5, 6, 7] rfl rfl (Nat.le_of_ble_eq_true rfl) (Nat.le_of_ble_eq_true rfl) ⟨(show aR (upd f49 x1.toNatClampNeg y_13) 0 1023 from (aR_upd _ hf49 f_13_2)), (show aR (upd f50 x1.toNatClampNeg j58_S0) 0 999 from (aR_upd _ hf50 hj58_S0))⟩
  refine lv_icmp_ge (tgt := 42) hx hb dX7_dayEnds_35 (by decide) (fun c_35 => ?_) (fun c_35 => ?_)
  · have c_35 : (f31 (i 13).toNatClampNeg) ≤ (f50 x1.toNatClampNeg) := c_35
    refine lv_aload_n hx hb dX7_dayEnds_42 rfl (lv_at hl 0 rfl) ?_
    refine k_get (D := (dC, dI)) (ci := 7) (v := .ref (r 50)) (C := RX7) (T := TX7) (N := 92) hx hb hts hinX7 hown hK hP 5 rfl rfl 50 (by decide) w_1 rfl rfl dX7_dayEnds_43 ?_
    refine lv_iload_n hx hb dX7_dayEnds_46 rfl (lv_at hl 1 rfl) ?_
    refine va_iald hx hb hK hP 2 0 rfl rfl (iR_vp hx1 (by decide +kernel)) dX7_dayEnds_47 ?_
    refine lv_aload_n hx hb dX7_dayEnds_48 rfl (lv_at hl 0 rfl) ?_
    refine k_get (D := (dC, dI)) (ci := 7) (v := .ref (r 31)) (C := RX7) (T := TX7) (N := 92) hx hb hts hinX7 hown hK hP 5 rfl rfl 31 (by decide) w_2 rfl rfl dX7_dayEnds_49 ?_
    refine lv_aload_n hx hb dX7_dayEnds_52 rfl (lv_at hl 0 rfl) ?_
    refine k_get (D := (dC, dI)) (ci := 7) (v := .int (i 13)) (C := RX7) (T := TX7) (N := 92) hx hb hts hinX7 hown hK hP 5 rfl rfl 13 (by decide) w_3 rfl rfl dX7_dayEnds_53 ?_
    refine va_iald hx hb hK hP 0 0 rfl rfl (iR_vp f_31_4 (by decide +kernel)) dX7_dayEnds_56 ?_
    refine lv_isub hx hb dX7_dayEnds_57 ?_
    refine lv_topi (fun y_57 ey_57 => ?_)
    have f_57_6 : iR y_57 0 999 := iR_subge ey_57 c_35 f_25_3 f_34_5 (by decide +kernel)
    exact J_58 y_57 f_57_6 H locs ls (hP.sub [5, 6, 7, 0, 1, 2, 3, 4] rfl) (hD.sub [5, 6, 7, 0, 1, 2, 3, 4] (by decide +kernel) rfl) hS (lv_sub hl [0, 1] rfl)
  · have c_35 : (f50 x1.toNatClampNeg) < (f31 (i 13).toNatClampNeg) := i_nle c_35
    have f_38_6 : iR (f50 x1.toNatClampNeg) 0 998 := iR_ltL c_35 f_25_3 f_34_5 (by decide +kernel)
    have f_38_7 : iR (f31 (i 13).toNatClampNeg) 1 999 := iR_ltR c_35 f_25_3 f_34_5 (by decide +kernel)
    refine lv_iconst (v := 0) hx hb dX7_dayEnds_38 (by decide +kernel) ?_
    refine lv_goto (tgt := 58) hx hb dX7_dayEnds_39 (by decide) ?_
    exact J_58 0 (iR_c (n := 0) (a := 0) (b := 999) (by decide +kernel) (by decide +kernel)) H locs ls (hP.sub [5, 6, 7, 0, 1, 2, 3, 4] rfl) (hD.sub [5, 6, 7, 0, 1, 2, 3, 4] (by decide +kernel) rfl) hS (lv_sub hl [0, 1] rfl)
set_option maxHeartbeats 8000000 in
set_option maxRecDepth 100000 in
theorem s_X7_refuses_v3 (l : Launch) (dC : Nat → ClassId) (dI : Nat → Nat → Nat) (cI cJ cZ cM : ClassId) (h : Nat) (r : Nat → Nat) (i : Nat → Int32) (j : Nat → Int64) (x1 : Int32) (f48 : Nat → Int32) (hx1 : iR x1 0 5) (hI : mR i) : k_Mi l yX7_refuses wsX7_refuses ({ frames := 1, cells := 0, slots := 0, locals := 40 }) (dC, dI) vwCl (tyy cI cJ cZ cM) [(h, .inr (7, oM r i j)), ((r 48), .inl (cI, 6, .inl f48))] [.ref h, .int x1] 0 0 (fun (u9 : SU) => [(h, .inr (7, oM r i j)), ((r 48), .inl (cI, 6, .inl (u9.2.2.1 0)))]) (fun (r9 : Int32) (u9 : SU) => (r9 = (-1))) := by
  refine fun sz => k_enter (cc := cX7_refuses) (maxL := 2) (ret := some (.int)) (Qc := fun A => va_Qi (fun (r9 : Int32) (u9 : SU) => (r9 = (-1))) (fun u => k_B (dC, dI) vwCl (tyy cI cJ cZ cM) A ((fun (u9 : SU) => [(h, .inr (7, oM r i j)), ((r 48), .inl (cI, 6, .inl (u9.2.2.1 0)))]) u)) A) sz (by decide +kernel) rfl (Nat.le_of_ble_eq_true rfl) (fun p e s m args below meth c A ls H locs B hP hD hS hl => ?_)
  obtain ⟨hx, hb, hml, hown, hts, hr, hlk, hnm, hK, hA, hN, hC⟩ := id B
  have hown : s.vm.findClass RX7 = some m.cls := hown
  have hl : lv_has ls 2 [(0, .ref h), (1, .int x1)] := hl
  have w_0 : (Cond.fieldLink RX7 159 "WishSeaModel" "refused" "[I").before args s = true := hts _ (List.mem_of_getElem? (i := 1) rfl)
  have hinX7 : ∀ w ∈ u_ws RX7 TX7 92, w ∈ wsX7_refuses := fun _ h => List.mem_cons_of_mem _ (List.mem_append_right _ h)
  refine lv_aload_n hx hb dX7_refuses_0 rfl (lv_at hl 0 rfl) ?_
  refine k_get (D := (dC, dI)) (ci := 7) (v := .ref (r 48)) (C := RX7) (T := TX7) (N := 92) hx hb hts hinX7 hown hK hP 0 rfl rfl 48 (by decide) w_0 rfl rfl dX7_refuses_1 ?_
  refine lv_iload_n hx hb dX7_refuses_4 rfl (lv_at hl 1 rfl) ?_
  refine lv_dup2_11 hx hb dX7_refuses_5 rfl rfl ?_
  refine va_iald hx hb hK hP 1 0 rfl rfl (iR_vp hx1 (by decide +kernel)) dX7_refuses_6 ?_
  refine lv_iconst (v := 1) hx hb dX7_refuses_7 (by decide +kernel) ?_
  refine lv_iadd hx hb dX7_refuses_8 ?_
  refine lv_topi (fun y_8 ey_8 => ?_)
  refine s_iast (g := (upd f48 x1.toNatClampNeg y_8)) (ws' := [(h, .inr (7, oM r i j)), ((r 48), .inl (cI, 6, .inl (upd f48 x1.toNatClampNeg y_8)))]) hx hb hK hP hD hS 1 0 rfl rfl (iR_vp hx1 (by decide +kernel)) rfl rfl dX7_refuses_9 (fun H locs hP hD hS => ?_)
  refine lv_iconst (v := (-1)) hx hb dX7_refuses_10 (by decide +kernel) ?_
  exact k_ri B hP hD hS dX7_refuses_11 ((fun _ => 0), (fun _ => 0), (fun k9 => match k9 with | 0 => (upd f48 x1.toNatClampNeg y_8) | _ => (fun _ => 0)), (fun _ => (fun _ => 0)), (fun _ => 0)) [0, 1] rfl rfl rfl (Nat.le_of_ble_eq_true rfl) (Nat.le_of_ble_eq_true rfl) rfl
set_option maxHeartbeats 8000000 in
set_option maxRecDepth 100000 in
theorem s_X7_night_v0 (l : Launch) (dC : Nat → ClassId) (dI : Nat → Nat → Nat) (cI cJ cZ cM : ClassId) (h : Nat) (r : Nat → Nat) (i : Nat → Int32) (j : Nat → Int64) (f14 : Nat → Int32) (f17 : Nat → Int32) (f31 : Nat → Int32) (f48 : Nat → Int32) (f49 : Nat → Int32) (f50 : Nat → Int32) (f51 : Nat → Int32) (f52 : Nat → Int32) (f53 : Nat → Int32) (f54 : Nat → Int32) (f55 : Nat → Int32) (f56 : Nat → Int32) (f57 : Nat → Int32) (hI : mR i) (hf14 : aR f14 0 10) (hf17 : aR f17 0 1) (hf31 : aR f31 0 999) (hf49 : aR f49 0 1023) (hf50 : aR f50 0 999) (hf53 : aR f53 0 50) : k_Mi l yX7_night wsX7_night ({ frames := 3, cells := 0, slots := 0, locals := 83 }) (dC, dI) vwCl (tyy cI cJ cZ cM) [(h, .inr (7, oM r i j)), ((r 14), .inl (cI, 2, .inl f14)), ((r 17), .inl (cI, 20, .inl f17)), ((r 31), .inl (cI, 2, .inl f31)), ((r 48), .inl (cI, 6, .inl f48)), ((r 49), .inl (cI, 22, .inl f49)), ((r 50), .inl (cI, 22, .inl f50)), ((r 51), .inl (cI, 22, .inl f51)), ((r 52), .inl (cI, 22, .inl f52)), ((r 53), .inl (cI, 22, .inl f53)), ((r 54), .inl (cI, 1100, .inl f54)), ((r 55), .inl (cI, 1100, .inl f55)), ((r 56), .inl (cI, 1100, .inl f56)), ((r 57), .inl (cI, 1100, .inl f57))] [.ref h] 0 0 (fun (u9 : SU) => [(h, .inr (7, oM r (upd (upd i 58 (u9.1 0)) 59 (u9.1 1)) j)), ((r 14), .inl (cI, 2, .inl f14)), ((r 17), .inl (cI, 20, .inl f17)), ((r 31), .inl (cI, 2, .inl f31)), ((r 48), .inl (cI, 6, .inl (u9.2.2.1 0))), ((r 49), .inl (cI, 22, .inl (u9.2.2.1 1))), ((r 50), .inl (cI, 22, .inl (u9.2.2.1 2))), ((r 51), .inl (cI, 22, .inl (u9.2.2.1 3))), ((r 52), .inl (cI, 22, .inl (u9.2.2.1 4))), ((r 53), .inl (cI, 22, .inl (u9.2.2.1 5))), ((r 54), .inl (cI, 1100, .inl (u9.2.2.1 6))), ((r 55), .inl (cI, 1100, .inl (u9.2.2.1 7))), ((r 56), .inl (cI, 1100, .inl (u9.2.2.1 8))), ((r 57), .inl (cI, 1100, .inl (u9.2.2.1 9)))]) (fun (r9 : Int32) (u9 : SU) => (iR (u9.1 0) 0 19) ∧ (iR (u9.1 1) 0 20) ∧ (aR (u9.2.2.1 1) 0 1023) ∧ (aR (u9.2.2.1 2) 0 999) ∧ (aR (u9.2.2.1 5) 0 50)) := by
  refine fun sz => k_enter (cc := cX7_night) (maxL := 1) (ret := some (.int)) (Qc := fun A => va_Qi (fun (r9 : Int32) (u9 : SU) => (iR (u9.1 0) 0 19) ∧ (iR (u9.1 1) 0 20) ∧ (aR (u9.2.2.1 1) 0 1023) ∧ (aR (u9.2.2.1 2) 0 999) ∧ (aR (u9.2.2.1 5) 0 50)) (fun u => k_B (dC, dI) vwCl (tyy cI cJ cZ cM) A ((fun (u9 : SU) => [(h, .inr (7, oM r (upd (upd i 58 (u9.1 0)) 59 (u9.1 1)) j)), ((r 14), .inl (cI, 2, .inl f14)), ((r 17), .inl (cI, 20, .inl f17)), ((r 31), .inl (cI, 2, .inl f31)), ((r 48), .inl (cI, 6, .inl (u9.2.2.1 0))), ((r 49), .inl (cI, 22, .inl (u9.2.2.1 1))), ((r 50), .inl (cI, 22, .inl (u9.2.2.1 2))), ((r 51), .inl (cI, 22, .inl (u9.2.2.1 3))), ((r 52), .inl (cI, 22, .inl (u9.2.2.1 4))), ((r 53), .inl (cI, 22, .inl (u9.2.2.1 5))), ((r 54), .inl (cI, 1100, .inl (u9.2.2.1 6))), ((r 55), .inl (cI, 1100, .inl (u9.2.2.1 7))), ((r 56), .inl (cI, 1100, .inl (u9.2.2.1 8))), ((r 57), .inl (cI, 1100, .inl (u9.2.2.1 9)))]) u)) A) sz (by decide +kernel) rfl (Nat.le_of_ble_eq_true rfl) (fun p e s m args below meth c A ls H locs B hP hD hS hl => ?_)
  obtain ⟨hx, hb, hml, hown, hts, hr, hlk, hnm, hK, hA, hN, hC⟩ := id B
  have hown : s.vm.findClass RX7 = some m.cls := hown
  have hl : lv_has ls 1 [(0, .ref h)] := hl
  have w_0 : (Cond.fieldLink RX7 171 "WishSeaModel" "dayOf" "[I").before args s = true := hts _ (List.mem_of_getElem? (i := 1) rfl)
  have hinX7 : ∀ w ∈ u_ws RX7 TX7 92, w ∈ wsX7_night := fun _ h => List.mem_cons_of_mem _ (List.mem_append_right _ h)
  refine lv_aload_n hx hb dX7_night_0 rfl (lv_at hl 0 rfl) ?_
  refine k_get (D := (dC, dI)) (ci := 7) (v := .ref (r 52)) (C := RX7) (T := TX7) (N := 92) hx hb hts hinX7 hown hK hP 0 rfl rfl 52 (by decide) w_0 rfl rfl dX7_night_1 ?_
  refine lv_iconst (v := 0) hx hb dX7_night_4 (by decide +kernel) ?_
  refine k_iald (v := (f52 0)) hx hb hK hP 8 0 0 rfl rfl rfl (Nat.le_of_ble_eq_true rfl) (Nat.le_of_ble_eq_true rfl) rfl dX7_night_5 ?_
  refine lv_sipush (v := 9999) hx hb dX7_night_6 (by decide +kernel) ?_
  refine lv_icmp_ne (tgt := 18) hx hb dX7_night_9 (by decide) (fun c_9 => ?_) (fun c_9 => ?_)
  · have c_9 : ¬ (f52 0) = 9999 := c_9
    refine lv_aload_n hx hb dX7_night_18 rfl (lv_at hl 0 rfl) ?_
    refine k_cv (wc := [(h, .inr (7, oM r i j)), ((r 49), .inl (cI, 22, .inl f49)), ((r 50), .inl (cI, 22, .inl f50)), ((r 51), .inl (cI, 22, .inl f51)), ((r 52), .inl (cI, 22, .inl f52)), ((r 53), .inl (cI, 22, .inl f53)), ((r 54), .inl (cI, 1100, .inl f54)), ((r 55), .inl (cI, 1100, .inl f55)), ((r 56), .inl (cI, 1100, .inl f56)), ((r 57), .inl (cI, 1100, .inl f57))]) (wr := [((r 14), .inl (cI, 2, .inl f14)), ((r 17), .inl (cI, 20, .inl f17)), ((r 31), .inl (cI, 2, .inl f31)), ((r 48), .inl (cI, 6, .inl f48))]) (fun hPc hDc hFc => va_runV (As := []) (rest := []) ⟨hx, hb, hml, hown, hts⟩ (s_X7_keeps_v1 l dC dI cI cJ cZ cM h r i j f49 f50 f51 f52 f53 f54 f55 f56 f57 hI hf49 hf50 hf53 H.size) (cwV 0 hts gX7_night_X7_keeps rfl rfl rfl (by decide +kernel) ⟨(Nat.le_of_ble_eq_true rfl), (Nat.le_of_ble_eq_true rfl)⟩) (k_pV hPc hDc hK hN hC hS hFc hP (q0 := 0) (ci := 7) rfl rfl) rfl rfl hl.1 rfl (lv_room (Nat.le_of_ble_eq_true rfl)) dX7_night_19 ⟨(Nat.le_of_ble_eq_true rfl), (Nat.le_of_ble_eq_true rfl)⟩) hP hD hS hA [0, 5, 6, 7, 8, 9, 10, 11, 12, 13] [1, 2, 3, 4] rfl rfl rfl rfl (by decide) (fun _ => rfl) 0 0 rfl rfl (fun u_19 H locs hw hP hD hS => ?_)
    obtain ⟨g_19_0, g_19_1, g_19_2, g_19_3, g_19_4⟩ := hw
    have hP : va_P (dC, dI) vwCl [((r 14), .inl (cI, 2, .inl f14)), ((r 17), .inl (cI, 20, .inl f17)), ((r 31), .inl (cI, 2, .inl f31)), ((r 48), .inl (cI, 6, .inl f48)), (h, .inr (7, oM r (upd (upd i 58 (u_19.1 0)) 59 (u_19.1 1)) j)), ((r 49), .inl (cI, 22, .inl (u_19.2.2.1 0))), ((r 50), .inl (cI, 22, .inl (u_19.2.2.1 1))), ((r 51), .inl (cI, 22, .inl (u_19.2.2.1 2))), ((r 52), .inl (cI, 22, .inl (u_19.2.2.1 3))), ((r 53), .inl (cI, 22, .inl (u_19.2.2.1 4))), ((r 54), .inl (cI, 1100, .inl (u_19.2.2.1 5))), ((r 55), .inl (cI, 1100, .inl (u_19.2.2.1 6))), ((r 56), .inl (cI, 1100, .inl (u_19.2.2.1 7))), ((r 57), .inl (cI, 1100, .inl (u_19.2.2.1 8)))] H := hP
    have hD : va_D A [((r 14), .inl (cI, 2, .inl f14)), ((r 17), .inl (cI, 20, .inl f17)), ((r 31), .inl (cI, 2, .inl f31)), ((r 48), .inl (cI, 6, .inl f48)), (h, .inr (7, oM r (upd (upd i 58 (u_19.1 0)) 59 (u_19.1 1)) j)), ((r 49), .inl (cI, 22, .inl (u_19.2.2.1 0))), ((r 50), .inl (cI, 22, .inl (u_19.2.2.1 1))), ((r 51), .inl (cI, 22, .inl (u_19.2.2.1 2))), ((r 52), .inl (cI, 22, .inl (u_19.2.2.1 3))), ((r 53), .inl (cI, 22, .inl (u_19.2.2.1 4))), ((r 54), .inl (cI, 1100, .inl (u_19.2.2.1 5))), ((r 55), .inl (cI, 1100, .inl (u_19.2.2.1 6))), ((r 56), .inl (cI, 1100, .inl (u_19.2.2.1 7))), ((r 57), .inl (cI, 1100, .inl (u_19.2.2.1 8)))] := hD
    refine lv_aload_n hx hb dX7_night_22 rfl (lv_at hl 0 rfl) ?_
    refine lv_iconst (v := 0) hx hb dX7_night_23 (by decide +kernel) ?_
    refine k_cv (wc := [(h, .inr (7, oM r (upd (upd i 58 (u_19.1 0)) 59 (u_19.1 1)) j)), ((r 14), .inl (cI, 2, .inl f14)), ((r 17), .inl (cI, 20, .inl f17)), ((r 31), .inl (cI, 2, .inl f31)), ((r 49), .inl (cI, 22, .inl (u_19.2.2.1 0))), ((r 50), .inl (cI, 22, .inl (u_19.2.2.1 1))), ((r 51), .inl (cI, 22, .inl (u_19.2.2.1 2))), ((r 52), .inl (cI, 22, .inl (u_19.2.2.1 3)))]) (wr := [((r 48), .inl (cI, 6, .inl f48)), ((r 53), .inl (cI, 22, .inl (u_19.2.2.1 4))), ((r 54), .inl (cI, 1100, .inl (u_19.2.2.1 5))), ((r 55), .inl (cI, 1100, .inl (u_19.2.2.1 6))), ((r 56), .inl (cI, 1100, .inl (u_19.2.2.1 7))), ((r 57), .inl (cI, 1100, .inl (u_19.2.2.1 8)))]) (fun hPc hDc hFc => va_runV (As := [.int 0]) (rest := []) ⟨hx, hb, hml, hown, hts⟩ (s_X7_dayEnds_v1 l dC dI cI cJ cZ cM h r (upd (upd i 58 (u_19.1 0)) 59 (u_19.1 1)) j 0 f14 f17 f31 (u_19.2.2.1 0) (u_19.2.2.1 1) (u_19.2.2.1 2) (u_19.2.2.1 3) (iR_c (n := 0) (a := 0) (b := 21) (by decide +kernel) (by decide +kernel)) (mR_upd 59 (mR_upd 58 hI (show iR _ (loI 58) (hiI 58) from g_19_0)) (show iR _ (loI 59) (hiI 59) from (iR_w g_19_1 (by decide +kernel)))) hf14 hf17 hf31 g_19_2 g_19_3 H.size) (cwV 1 hts gX7_night_X7_dayEnds rfl rfl rfl (by decide +kernel) ⟨(Nat.le_of_ble_eq_true rfl), (Nat.le_of_ble_eq_true rfl)⟩) (k_pV hPc hDc hK hN hC hS hFc hP (q0 := 4) (ci := 7) rfl rfl) rfl rfl hl.1 rfl (lv_room (Nat.le_of_ble_eq_true rfl)) dX7_night_24 ⟨(Nat.le_of_ble_eq_true rfl), (Nat.le_of_ble_eq_true rfl)⟩) hP hD hS hA [4, 0, 1, 2, 5, 6, 7, 8] [3, 9, 10, 11, 12, 13] rfl rfl rfl rfl (by decide) (fun _ => rfl) 0 0 rfl rfl (fun u_24 H locs hw hP hD hS => ?_)
    obtain ⟨g_24_0, g_24_1⟩ := hw
    have hP : va_P (dC, dI) vwCl [((r 48), .inl (cI, 6, .inl f48)), ((r 53), .inl (cI, 22, .inl (u_19.2.2.1 4))), ((r 54), .inl (cI, 1100, .inl (u_19.2.2.1 5))), ((r 55), .inl (cI, 1100, .inl (u_19.2.2.1 6))), ((r 56), .inl (cI, 1100, .inl (u_19.2.2.1 7))), ((r 57), .inl (cI, 1100, .inl (u_19.2.2.1 8))), (h, .inr (7, oM r (upd (upd i 58 (u_19.1 0)) 59 (u_19.1 1)) j)), ((r 14), .inl (cI, 2, .inl f14)), ((r 17), .inl (cI, 20, .inl f17)), ((r 31), .inl (cI, 2, .inl f31)), ((r 49), .inl (cI, 22, .inl (u_24.2.2.1 0))), ((r 50), .inl (cI, 22, .inl (u_24.2.2.1 1))), ((r 51), .inl (cI, 22, .inl (upd (u_19.2.2.1 2) 0 0))), ((r 52), .inl (cI, 22, .inl (u_24.2.2.1 2)))] H := hP
    have hD : va_D A [((r 48), .inl (cI, 6, .inl f48)), ((r 53), .inl (cI, 22, .inl (u_19.2.2.1 4))), ((r 54), .inl (cI, 1100, .inl (u_19.2.2.1 5))), ((r 55), .inl (cI, 1100, .inl (u_19.2.2.1 6))), ((r 56), .inl (cI, 1100, .inl (u_19.2.2.1 7))), ((r 57), .inl (cI, 1100, .inl (u_19.2.2.1 8))), (h, .inr (7, oM r (upd (upd i 58 (u_19.1 0)) 59 (u_19.1 1)) j)), ((r 14), .inl (cI, 2, .inl f14)), ((r 17), .inl (cI, 20, .inl f17)), ((r 31), .inl (cI, 2, .inl f31)), ((r 49), .inl (cI, 22, .inl (u_24.2.2.1 0))), ((r 50), .inl (cI, 22, .inl (u_24.2.2.1 1))), ((r 51), .inl (cI, 22, .inl (upd (u_19.2.2.1 2) 0 0))), ((r 52), .inl (cI, 22, .inl (u_24.2.2.1 2)))] := hD
    refine lv_aload_n hx hb dX7_night_27 rfl (lv_at hl 0 rfl) ?_
    refine k_get (D := (dC, dI)) (ci := 7) (v := .ref (r 52)) (C := RX7) (T := TX7) (N := 92) hx hb hts hinX7 hown hK hP 6 rfl rfl 52 (by decide) w_0 rfl rfl dX7_night_28 ?_
    refine lv_iconst (v := 0) hx hb dX7_night_31 (by decide +kernel) ?_
    refine k_iald (v := ((u_24.2.2.1 2) 0)) hx hb hK hP 13 0 0 rfl rfl rfl (Nat.le_of_ble_eq_true rfl) (Nat.le_of_ble_eq_true rfl) rfl dX7_night_32 ?_
    exact k_ri B hP hD hS dX7_night_33 ((fun k9 => match k9 with | 0 => (u_19.1 0) | 1 => (u_19.1 1) | _ => 0), (fun _ => 0), (fun k9 => match k9 with | 0 => f48 | 1 => (u_24.2.2.1 0) | 2 => (u_24.2.2.1 1) | 3 => (upd (u_19.2.2.1 2) 0 0) | 4 => (u_24.2.2.1 2) | 5 => (u_19.2.2.1 4) | 6 => (u_19.2.2.1 5) | 7 => (u_19.2.2.1 6) | 8 => (u_19.2.2.1 7) | 9 => (u_19.2.2.1 8) | _ => (fun _ => 0)), (fun _ => (fun _ => 0)), (fun _ => 0)) [6, 7, 8, 9, 0, 10, 11, 12, 13, 1, 2, 3, 4, 5] rfl rfl rfl (Nat.le_of_ble_eq_true rfl) (Nat.le_of_ble_eq_true rfl) ⟨(show iR (u_19.1 0) 0 19 from g_19_0), (show iR (u_19.1 1) 0 20 from (iR_w g_19_1 (by decide +kernel))), (show aR (u_24.2.2.1 0) 0 1023 from g_24_0), (show aR (u_24.2.2.1 1) 0 999 from g_24_1), (show aR (u_19.2.2.1 4) 0 50 from g_19_4)⟩
  · have c_9 : (f52 0) = 9999 := c_9
    have f_12_1 : iR (f52 0) 9999 9999 := iR_eqL c_9 (iR_top _) (iR_c (n := 9999) (a := 9999) (b := 9999) (by decide +kernel) (by decide +kernel)) (by decide +kernel)
    refine lv_aload_n hx hb dX7_night_12 rfl (lv_at hl 0 rfl) ?_
    refine lv_iconst (v := 3) hx hb dX7_night_13 (by decide +kernel) ?_
    refine k_ci (wc := [(h, .inr (7, oM r i j)), ((r 48), .inl (cI, 6, .inl f48))]) (wr := [((r 14), .inl (cI, 2, .inl f14)), ((r 17), .inl (cI, 20, .inl f17)), ((r 31), .inl (cI, 2, .inl f31)), ((r 49), .inl (cI, 22, .inl f49)), ((r 50), .inl (cI, 22, .inl f50)), ((r 51), .inl (cI, 22, .inl f51)), ((r 52), .inl (cI, 22, .inl f52)), ((r 53), .inl (cI, 22, .inl f53)), ((r 54), .inl (cI, 1100, .inl f54)), ((r 55), .inl (cI, 1100, .inl f55)), ((r 56), .inl (cI, 1100, .inl f56)), ((r 57), .inl (cI, 1100, .inl f57))]) (fun hPc hDc hFc => va_runV (As := [.int 3]) (rest := []) ⟨hx, hb, hml, hown, hts⟩ (s_X7_refuses_v3 l dC dI cI cJ cZ cM h r i j 3 f48 (iR_c (n := 3) (a := 0) (b := 5) (by decide +kernel) (by decide +kernel)) hI H.size) (cwV 1 hts gX7_night_X7_refuses rfl rfl rfl (by decide +kernel) ⟨(Nat.le_of_ble_eq_true rfl), (Nat.le_of_ble_eq_true rfl)⟩) (k_pV hPc hDc hK hN hC hS hFc hP (q0 := 0) (ci := 7) rfl rfl) rfl rfl hl.1 rfl (lv_room (Nat.le_of_ble_eq_true rfl)) dX7_night_14 ⟨(Nat.le_of_ble_eq_true rfl), (Nat.le_of_ble_eq_true rfl)⟩) hP hD hS hA [0, 4] [1, 2, 3, 5, 6, 7, 8, 9, 10, 11, 12, 13] rfl rfl rfl rfl (by decide) (fun _ => rfl) 0 0 rfl rfl (fun r_14 u_14 H locs hw hP hD hS => ?_)
    have g_14_0 := hw
    obtain rfl : r_14 = (-1) := g_14_0
    have hP : va_P (dC, dI) vwCl [((r 14), .inl (cI, 2, .inl f14)), ((r 17), .inl (cI, 20, .inl f17)), ((r 31), .inl (cI, 2, .inl f31)), ((r 49), .inl (cI, 22, .inl f49)), ((r 50), .inl (cI, 22, .inl f50)), ((r 51), .inl (cI, 22, .inl f51)), ((r 52), .inl (cI, 22, .inl f52)), ((r 53), .inl (cI, 22, .inl f53)), ((r 54), .inl (cI, 1100, .inl f54)), ((r 55), .inl (cI, 1100, .inl f55)), ((r 56), .inl (cI, 1100, .inl f56)), ((r 57), .inl (cI, 1100, .inl f57)), (h, .inr (7, oM r i j)), ((r 48), .inl (cI, 6, .inl (u_14.2.2.1 0)))] H := hP
    have hD : va_D A [((r 14), .inl (cI, 2, .inl f14)), ((r 17), .inl (cI, 20, .inl f17)), ((r 31), .inl (cI, 2, .inl f31)), ((r 49), .inl (cI, 22, .inl f49)), ((r 50), .inl (cI, 22, .inl f50)), ((r 51), .inl (cI, 22, .inl f51)), ((r 52), .inl (cI, 22, .inl f52)), ((r 53), .inl (cI, 22, .inl f53)), ((r 54), .inl (cI, 1100, .inl f54)), ((r 55), .inl (cI, 1100, .inl f55)), ((r 56), .inl (cI, 1100, .inl f56)), ((r 57), .inl (cI, 1100, .inl f57)), (h, .inr (7, oM r i j)), ((r 48), .inl (cI, 6, .inl (u_14.2.2.1 0)))] := hD
    exact k_ri B hP hD hS dX7_night_17 ((fun k9 => match k9 with | 0 => (i 58) | 1 => (i 59) | _ => 0), (fun _ => 0), (fun k9 => match k9 with | 0 => (u_14.2.2.1 0) | 1 => f49 | 2 => f50 | 3 => f51 | 4 => f52 | 5 => f53 | 6 => f54 | 7 => f55 | 8 => f56 | 9 => f57 | _ => (fun _ => 0)), (fun _ => (fun _ => 0)), (fun _ => 0)) [12, 0, 1, 2, 13, 3, 4, 5, 6, 7, 8, 9, 10, 11] rfl rfl rfl (Nat.le_of_ble_eq_true rfl) (Nat.le_of_ble_eq_true rfl) ⟨(show iR (i 58) 0 19 from (hI 58)), (show iR (i 59) 0 20 from (hI 59)), (show aR f49 0 1023 from hf49), (show aR f50 0 999 from hf50), (show aR f53 0 50 from hf53)⟩
set_option maxHeartbeats 8000000 in
set_option maxRecDepth 100000 in
theorem s_X7_draw_v0 (l : Launch) (dC : Nat → ClassId) (dI : Nat → Nat → Nat) (cI cJ cZ cM : ClassId) (h : Nat) (r : Nat → Nat) (i : Nat → Int32) (j : Nat → Int64) (x1 : Int32) (hx1 : iR x1 1 12) (hI : mR i) (hJ60 : lR (j 60) 0 2147483647) : k_Mi l yX7_draw wsX7_draw ({ frames := 1, cells := 0, slots := 0, locals := 40 }) (dC, dI) vwCl (tyy cI cJ cZ cM) [(h, .inr (7, oM r i j))] [.ref h, .int x1] 0 0 (fun (u9 : SU) => [(h, .inr (7, oM r i (vp_updL j 60 (u9.2.1 0))))]) (fun (r9 : Int32) (u9 : SU) => (iR r9 0 11) ∧ (lR (u9.2.1 0) 0 2147483647)) := by
  refine fun sz => k_enter (cc := cX7_draw) (maxL := 2) (ret := some (.int)) (Qc := fun A => va_Qi (fun (r9 : Int32) (u9 : SU) => (iR r9 0 11) ∧ (lR (u9.2.1 0) 0 2147483647)) (fun u => k_B (dC, dI) vwCl (tyy cI cJ cZ cM) A ((fun (u9 : SU) => [(h, .inr (7, oM r i (vp_updL j 60 (u9.2.1 0))))]) u)) A) sz (by decide +kernel) rfl (Nat.le_of_ble_eq_true rfl) (fun p e s m args below meth c A ls H locs B hP hD hS hl => ?_)
  obtain ⟨hx, hb, hml, hown, hts, hr, hlk, hnm, hK, hA, hN, hC⟩ := id B
  have hown : s.vm.findClass RX7 = some m.cls := hown
  have hl : lv_has ls 2 [(0, .ref h), (1, .int x1)] := hl
  have w_0 : (Cond.constantLong RX7 578 (1103515245)).before args s = true := hts _ (List.mem_of_getElem? (i := 1) rfl)
  have w_1 : (Cond.fieldLink RX7 195 "WishSeaModel" "seeds" "J").before args s = true := hts _ (List.mem_of_getElem? (i := 2) rfl)
  have w_2 : (Cond.constantLong RX7 580 (12345)).before args s = true := hts _ (List.mem_of_getElem? (i := 3) rfl)
  have w_3 : (Cond.constantLong RX7 582 (2147483648)).before args s = true := hts _ (List.mem_of_getElem? (i := 4) rfl)
  have w_4 : (Cond.constantLong RX7 584 (64)).before args s = true := hts _ (List.mem_of_getElem? (i := 5) rfl)
  have hinX7 : ∀ w ∈ u_ws RX7 TX7 92, w ∈ wsX7_draw := fun _ h => List.mem_cons_of_mem _ (List.mem_append_right _ h)
  refine lv_aload_n hx hb dX7_draw_0 rfl (lv_at hl 0 rfl) ?_
  refine lv_ldc2 (v := 1103515245) hx hb hown w_0 dX7_draw_1 ?_
  refine lv_aload_n hx hb dX7_draw_4 rfl (lv_at hl 0 rfl) ?_
  refine k_get (D := (dC, dI)) (ci := 7) (v := .long (j 60)) (C := RX7) (T := TX7) (N := 92) hx hb hts hinX7 hown hK hP 0 rfl rfl 60 (by decide) w_1 rfl rfl dX7_draw_5 ?_
  refine lv_lmul hx hb dX7_draw_8 ?_
  refine lv_topl (fun y_8 ey_8 => ?_)
  have f_8_1 : lR y_8 0 2369780942852698515 := lR_mul ey_8 (lR_c (n := 1103515245) (a := 1103515245) (b := 1103515245) (by decide +kernel) (by decide +kernel)) hJ60 (by decide +kernel)
  refine lv_ldc2 (v := 12345) hx hb hown w_2 dX7_draw_9 ?_
  refine lv_ladd hx hb dX7_draw_12 ?_
  refine lv_topl (fun y_12 ey_12 => ?_)
  have f_12_2 : lR y_12 12345 2369780942852710860 := lR_add ey_12 f_8_1 (lR_c (n := 12345) (a := 12345) (b := 12345) (by decide +kernel) (by decide +kernel)) (by decide +kernel)
  refine lv_ldc2 (v := 2147483648) hx hb hown w_3 dX7_draw_13 ?_
  refine lv_lrem hx hb dX7_draw_16 (by decide +kernel) ?_
  refine lv_topl (fun y_16 ey_16 => ?_)
  have f_16_3 : lR y_16 0 2147483647 := lR_rem ey_16 f_12_2 (lR_c (n := 2147483648) (a := 2147483648) (b := 2147483648) (by decide +kernel) (by decide +kernel)) (by decide +kernel)
  refine k_put (D := (dC, dI)) (ci := 7) (v := .long y_16) (C := RX7) (T := TX7) (N := 92) (ws' := [(h, .inr (7, oM r i (vp_updL j 60 y_16)))]) hx hb hts hinX7 tyX7 tyX7_ok nmX7 hown hK hP hD hS 0 rfl rfl 60 (by decide) w_1 rfl rfl rfl rfl (Nat.le_of_ble_eq_true rfl) rfl dX7_draw_17 (fun H locs hP hD hS => ?_)
  refine lv_aload_n hx hb dX7_draw_20 rfl (lv_at hl 0 rfl) ?_
  refine k_get (D := (dC, dI)) (ci := 7) (v := .long y_16) (C := RX7) (T := TX7) (N := 92) hx hb hts hinX7 hown hK hP 0 rfl rfl 60 (by decide) w_1 rfl rfl dX7_draw_21 ?_
  refine lv_ldc2 (v := 64) hx hb hown w_4 dX7_draw_24 ?_
  refine lv_ldiv hx hb dX7_draw_27 (by decide +kernel) ?_
  refine lv_topl (fun y_27 ey_27 => ?_)
  have f_27_4 : lR y_27 0 33554431 := lR_div ey_27 f_16_3 (lR_c (n := 64) (a := 64) (b := 64) (by decide +kernel) (by decide +kernel)) (by decide +kernel)
  refine lv_iload_n hx hb dX7_draw_28 rfl (lv_at hl 1 rfl) ?_
  refine lv_i2l (v := x1.toInt64) hx hb dX7_draw_29 rfl ?_
  refine lv_topl (fun y_29 ey_29 => ?_)
  have f_29_5 : lR y_29 1 12 := lR_i2l ey_29 hx1
  refine lv_lrem hx hb dX7_draw_30 (l_nz f_29_5 (by decide +kernel)) ?_
  refine lv_topl (fun y_30 ey_30 => ?_)
  have f_30_6 : lR y_30 0 11 := lR_rem ey_30 f_27_4 f_29_5 (by decide +kernel)
  refine lv_l2i (v := y_30.toInt32) hx hb dX7_draw_31 rfl ?_
  refine lv_topi (fun y_31 ey_31 => ?_)
  have f_31_7 : iR y_31 0 11 := iR_l2i ey_31 f_30_6 (by decide +kernel)
  exact k_ri B hP hD hS dX7_draw_32 ((fun _ => 0), (fun k9 => match k9 with | 0 => y_16 | _ => 0), (fun _ => (fun _ => 0)), (fun _ => (fun _ => 0)), (fun _ => 0)) [0] rfl rfl rfl (Nat.le_of_ble_eq_true rfl) (Nat.le_of_ble_eq_true rfl) ⟨(show iR y_31 0 11 from f_31_7), (show lR y_16 0 2147483647 from f_16_3)⟩
set_option maxHeartbeats 8000000 in
set_option maxRecDepth 100000 in
theorem s_X7_ring_v3 (l : Launch) (dC : Nat → ClassId) (dI : Nat → Nat → Nat) (cI cJ cZ cM : ClassId) (h : Nat) (r : Nat → Nat) (i : Nat → Int32) (j : Nat → Int64) (x1 : Int32) (hx1 : iR x1 0 20) (hI : mR i) : k_Mi l yX7_ring wsX7_ring ({ frames := 1, cells := 0, slots := 0, locals := 40 }) (dC, dI) vwCl (tyy cI cJ cZ cM) [(h, .inr (7, oM r i j))] [.ref h, .int x1] 0 0 (fun (u9 : Unit) => [(h, .inr (7, oM r i j))]) (fun (r9 : Int32) (u9 : Unit) => (iR r9 2 21)) := by
  refine fun sz => k_enter (cc := cX7_ring) (maxL := 2) (ret := some (.int)) (Qc := fun A => va_Qi (fun (r9 : Int32) (u9 : Unit) => (iR r9 2 21)) (fun u => k_B (dC, dI) vwCl (tyy cI cJ cZ cM) A ((fun (u9 : Unit) => [(h, .inr (7, oM r i j))]) u)) A) sz (by decide +kernel) rfl (Nat.le_of_ble_eq_true rfl) (fun p e s m args below meth c A ls H locs B hP hD hS hl => ?_)
  obtain ⟨hx, hb, hml, hown, hts, hr, hlk, hnm, hK, hA, hN, hC⟩ := id B
  have hown : s.vm.findClass RX7 = some m.cls := hown
  have hl : lv_has ls 2 [(0, .ref h), (1, .int x1)] := hl
  have w_0 : (Cond.fieldLink RX7 189 "WishSeaModel" "undoFirst" "I").before args s = true := hts _ (List.mem_of_getElem? (i := 1) rfl)
  have hinX7 : ∀ w ∈ u_ws RX7 TX7 92, w ∈ wsX7_ring := fun _ h => List.mem_cons_of_mem _ (List.mem_append_right _ h)
  refine lv_iconst (v := 2) hx hb dX7_ring_0 (by decide +kernel) ?_
  refine lv_aload_n hx hb dX7_ring_1 rfl (lv_at hl 0 rfl) ?_
  have f_2_1 : iR (i 58) 0 19 := hI 58
  refine k_get (D := (dC, dI)) (ci := 7) (v := .int (i 58)) (C := RX7) (T := TX7) (N := 92) hx hb hts hinX7 hown hK hP 0 rfl rfl 58 (by decide) w_0 rfl rfl dX7_ring_2 ?_
  refine lv_iload_n hx hb dX7_ring_5 rfl (lv_at hl 1 rfl) ?_
  refine lv_iadd hx hb dX7_ring_6 ?_
  refine lv_topi (fun y_6 ey_6 => ?_)
  have f_6_2 : iR y_6 0 39 := iR_add ey_6 f_2_1 hx1 (by decide +kernel)
  refine lv_bipush (v := 20) hx hb dX7_ring_7 (by decide +kernel) ?_
  refine lv_irem hx hb dX7_ring_9 (i_nz (iR_c (n := 20) (a := 20) (b := 20) (by decide +kernel) (by decide +kernel)) (by decide +kernel)) ?_
  refine lv_topi (fun y_9 ey_9 => ?_)
  have f_9_3 : iR y_9 0 19 := iR_rem ey_9 f_6_2 (iR_c (n := 20) (a := 20) (b := 20) (by decide +kernel) (by decide +kernel)) (by decide +kernel)
  refine lv_iadd hx hb dX7_ring_10 ?_
  refine lv_topi (fun y_10 ey_10 => ?_)
  have f_10_4 : iR y_10 2 21 := iR_add ey_10 (iR_c (n := 2) (a := 2) (b := 2) (by decide +kernel) (by decide +kernel)) f_9_3 (by decide +kernel)
  exact k_ri B hP hD hS dX7_ring_11 () [0] rfl rfl rfl (Nat.le_of_ble_eq_true rfl) (Nat.le_of_ble_eq_true rfl) (show iR y_10 2 21 from f_10_4)
set_option maxHeartbeats 8000000 in
set_option maxRecDepth 100000 in
theorem s_X7_copies_v3 (l : Launch) (dC : Nat → ClassId) (dI : Nat → Nat → Nat) (cI cJ cZ cM : ClassId) (h : Nat) (r : Nat → Nat) (i : Nat → Int32) (j : Nat → Int64) (x1 : Int32) (x2 : Int32) (f49 : Nat → Int32) (f50 : Nat → Int32) (f51 : Nat → Int32) (f52 : Nat → Int32) (f53 : Nat → Int32) (f54 : Nat → Int32) (f55 : Nat → Int32) (f56 : Nat → Int32) (f57 : Nat → Int32) (hx1 : iR x1 0 21) (hx2 : iR x2 0 21) (hI : mR i) (hf49 : aR f49 0 1023) (hf50 : aR f50 0 999) (hf53 : aR f53 0 50) : k_Mv l yX7_copies wsX7_copies ({ frames := 1, cells := 0, slots := 0, locals := 40 }) (dC, dI) vwCl (tyy cI cJ cZ cM) [(h, .inr (7, oM r i j)), ((r 49), .inl (cI, 22, .inl f49)), ((r 50), .inl (cI, 22, .inl f50)), ((r 51), .inl (cI, 22, .inl f51)), ((r 52), .inl (cI, 22, .inl f52)), ((r 53), .inl (cI, 22, .inl f53)), ((r 54), .inl (cI, 1100, .inl f54)), ((r 55), .inl (cI, 1100, .inl f55)), ((r 56), .inl (cI, 1100, .inl f56)), ((r 57), .inl (cI, 1100, .inl f57))] [.ref h, .int x1, .int x2] 0 0 (fun (u9 : SU) => [(h, .inr (7, oM r i j)), ((r 49), .inl (cI, 22, .inl (upd f49 x1.toNatClampNeg (f49 x2.toNatClampNeg)))), ((r 50), .inl (cI, 22, .inl (upd f50 x1.toNatClampNeg (f50 x2.toNatClampNeg)))), ((r 51), .inl (cI, 22, .inl (upd f51 x1.toNatClampNeg (f51 x2.toNatClampNeg)))), ((r 52), .inl (cI, 22, .inl (upd f52 x1.toNatClampNeg (f52 x2.toNatClampNeg)))), ((r 53), .inl (cI, 22, .inl (upd f53 x1.toNatClampNeg (f53 x2.toNatClampNeg)))), ((r 54), .inl (cI, 1100, .inl (u9.2.2.1 0))), ((r 55), .inl (cI, 1100, .inl (u9.2.2.1 1))), ((r 56), .inl (cI, 1100, .inl (u9.2.2.1 2))), ((r 57), .inl (cI, 1100, .inl (u9.2.2.1 3)))]) (fun (u9 : SU) => True) := by
  refine fun sz => k_enter (cc := cX7_copies) (maxL := 4) (ret := none) (Qc := fun A => va_Qv (fun (u9 : SU) => True) (fun u => k_B (dC, dI) vwCl (tyy cI cJ cZ cM) A ((fun (u9 : SU) => [(h, .inr (7, oM r i j)), ((r 49), .inl (cI, 22, .inl (upd f49 x1.toNatClampNeg (f49 x2.toNatClampNeg)))), ((r 50), .inl (cI, 22, .inl (upd f50 x1.toNatClampNeg (f50 x2.toNatClampNeg)))), ((r 51), .inl (cI, 22, .inl (upd f51 x1.toNatClampNeg (f51 x2.toNatClampNeg)))), ((r 52), .inl (cI, 22, .inl (upd f52 x1.toNatClampNeg (f52 x2.toNatClampNeg)))), ((r 53), .inl (cI, 22, .inl (upd f53 x1.toNatClampNeg (f53 x2.toNatClampNeg)))), ((r 54), .inl (cI, 1100, .inl (u9.2.2.1 0))), ((r 55), .inl (cI, 1100, .inl (u9.2.2.1 1))), ((r 56), .inl (cI, 1100, .inl (u9.2.2.1 2))), ((r 57), .inl (cI, 1100, .inl (u9.2.2.1 3)))]) u)) A) sz (by decide +kernel) rfl (Nat.le_of_ble_eq_true rfl) (fun p e s m args below meth c A ls H locs B hP hD hS hl => ?_)
  obtain ⟨hx, hb, hml, hown, hts, hr, hlk, hnm, hK, hA, hN, hC⟩ := id B
  have hown : s.vm.findClass RX7 = some m.cls := hown
  have hl : lv_has ls 4 [(0, .ref h), (1, .int x1), (2, .int x2)] := hl
  have w_0 : (Cond.fieldLink RX7 162 "WishSeaModel" "hadOf" "[I").before args s = true := hts _ (List.mem_of_getElem? (i := 1) rfl)
  have w_1 : (Cond.fieldLink RX7 165 "WishSeaModel" "seaOf" "[I").before args s = true := hts _ (List.mem_of_getElem? (i := 2) rfl)
  have w_2 : (Cond.fieldLink RX7 168 "WishSeaModel" "saidOf" "[I").before args s = true := hts _ (List.mem_of_getElem? (i := 3) rfl)
  have w_3 : (Cond.fieldLink RX7 171 "WishSeaModel" "dayOf" "[I").before args s = true := hts _ (List.mem_of_getElem? (i := 4) rfl)
  have w_4 : (Cond.fieldLink RX7 174 "WishSeaModel" "keptMany" "[I").before args s = true := hts _ (List.mem_of_getElem? (i := 5) rfl)
  have w_5 : (Cond.fieldLink RX7 177 "WishSeaModel" "keptDay" "[I").before args s = true := hts _ (List.mem_of_getElem? (i := 6) rfl)
  have w_6 : (Cond.fieldLink RX7 180 "WishSeaModel" "keptWish" "[I").before args s = true := hts _ (List.mem_of_getElem? (i := 7) rfl)
  have w_7 : (Cond.fieldLink RX7 183 "WishSeaModel" "keptSea" "[I").before args s = true := hts _ (List.mem_of_getElem? (i := 8) rfl)
  have w_8 : (Cond.fieldLink RX7 186 "WishSeaModel" "keptFell" "[I").before args s = true := hts _ (List.mem_of_getElem? (i := 9) rfl)
  have hinX7 : ∀ w ∈ u_ws RX7 TX7 92, w ∈ wsX7_copies := fun _ h => List.mem_cons_of_mem _ (List.mem_append_right _ h)
  refine lv_aload_n hx hb dX7_copies_0 rfl (lv_at hl 0 rfl) ?_
  refine k_get (D := (dC, dI)) (ci := 7) (v := .ref (r 49)) (C := RX7) (T := TX7) (N := 92) hx hb hts hinX7 hown hK hP 0 rfl rfl 49 (by decide) w_0 rfl rfl dX7_copies_1 ?_
  refine lv_iload_n hx hb dX7_copies_4 rfl (lv_at hl 1 rfl) ?_
  refine lv_aload_n hx hb dX7_copies_5 rfl (lv_at hl 0 rfl) ?_
  refine k_get (D := (dC, dI)) (ci := 7) (v := .ref (r 49)) (C := RX7) (T := TX7) (N := 92) hx hb hts hinX7 hown hK hP 0 rfl rfl 49 (by decide) w_0 rfl rfl dX7_copies_6 ?_
  refine lv_iload_n hx hb dX7_copies_9 rfl (lv_at hl 2 rfl) ?_
  refine va_iald hx hb hK hP 1 0 rfl rfl (iR_vp hx2 (by decide +kernel)) dX7_copies_10 ?_
  have f_10_1 : iR (f49 x2.toNatClampNeg) 0 1023 := hf49 _
  refine s_iast (g := (upd f49 x1.toNatClampNeg (f49 x2.toNatClampNeg))) (ws' := [(h, .inr (7, oM r i j)), ((r 49), .inl (cI, 22, .inl (upd f49 x1.toNatClampNeg (f49 x2.toNatClampNeg)))), ((r 50), .inl (cI, 22, .inl f50)), ((r 51), .inl (cI, 22, .inl f51)), ((r 52), .inl (cI, 22, .inl f52)), ((r 53), .inl (cI, 22, .inl f53)), ((r 54), .inl (cI, 1100, .inl f54)), ((r 55), .inl (cI, 1100, .inl f55)), ((r 56), .inl (cI, 1100, .inl f56)), ((r 57), .inl (cI, 1100, .inl f57))]) hx hb hK hP hD hS 1 0 rfl rfl (iR_vp hx1 (by decide +kernel)) rfl rfl dX7_copies_11 (fun H locs hP hD hS => ?_)
  refine lv_aload_n hx hb dX7_copies_12 rfl (lv_at hl 0 rfl) ?_
  refine k_get (D := (dC, dI)) (ci := 7) (v := .ref (r 50)) (C := RX7) (T := TX7) (N := 92) hx hb hts hinX7 hown hK hP 0 rfl rfl 50 (by decide) w_1 rfl rfl dX7_copies_13 ?_
  refine lv_iload_n hx hb dX7_copies_16 rfl (lv_at hl 1 rfl) ?_
  refine lv_aload_n hx hb dX7_copies_17 rfl (lv_at hl 0 rfl) ?_
  refine k_get (D := (dC, dI)) (ci := 7) (v := .ref (r 50)) (C := RX7) (T := TX7) (N := 92) hx hb hts hinX7 hown hK hP 0 rfl rfl 50 (by decide) w_1 rfl rfl dX7_copies_18 ?_
  refine lv_iload_n hx hb dX7_copies_21 rfl (lv_at hl 2 rfl) ?_
  refine va_iald hx hb hK hP 2 0 rfl rfl (iR_vp hx2 (by decide +kernel)) dX7_copies_22 ?_
  have f_22_2 : iR (f50 x2.toNatClampNeg) 0 999 := hf50 _
  refine s_iast (g := (upd f50 x1.toNatClampNeg (f50 x2.toNatClampNeg))) (ws' := [(h, .inr (7, oM r i j)), ((r 49), .inl (cI, 22, .inl (upd f49 x1.toNatClampNeg (f49 x2.toNatClampNeg)))), ((r 50), .inl (cI, 22, .inl (upd f50 x1.toNatClampNeg (f50 x2.toNatClampNeg)))), ((r 51), .inl (cI, 22, .inl f51)), ((r 52), .inl (cI, 22, .inl f52)), ((r 53), .inl (cI, 22, .inl f53)), ((r 54), .inl (cI, 1100, .inl f54)), ((r 55), .inl (cI, 1100, .inl f55)), ((r 56), .inl (cI, 1100, .inl f56)), ((r 57), .inl (cI, 1100, .inl f57))]) hx hb hK hP hD hS 2 0 rfl rfl (iR_vp hx1 (by decide +kernel)) rfl rfl dX7_copies_23 (fun H locs hP hD hS => ?_)
  refine lv_aload_n hx hb dX7_copies_24 rfl (lv_at hl 0 rfl) ?_
  refine k_get (D := (dC, dI)) (ci := 7) (v := .ref (r 51)) (C := RX7) (T := TX7) (N := 92) hx hb hts hinX7 hown hK hP 0 rfl rfl 51 (by decide) w_2 rfl rfl dX7_copies_25 ?_
  refine lv_iload_n hx hb dX7_copies_28 rfl (lv_at hl 1 rfl) ?_
  refine lv_aload_n hx hb dX7_copies_29 rfl (lv_at hl 0 rfl) ?_
  refine k_get (D := (dC, dI)) (ci := 7) (v := .ref (r 51)) (C := RX7) (T := TX7) (N := 92) hx hb hts hinX7 hown hK hP 0 rfl rfl 51 (by decide) w_2 rfl rfl dX7_copies_30 ?_
  refine lv_iload_n hx hb dX7_copies_33 rfl (lv_at hl 2 rfl) ?_
  refine va_iald hx hb hK hP 3 0 rfl rfl (iR_vp hx2 (by decide +kernel)) dX7_copies_34 ?_
  refine s_iast (g := (upd f51 x1.toNatClampNeg (f51 x2.toNatClampNeg))) (ws' := [(h, .inr (7, oM r i j)), ((r 49), .inl (cI, 22, .inl (upd f49 x1.toNatClampNeg (f49 x2.toNatClampNeg)))), ((r 50), .inl (cI, 22, .inl (upd f50 x1.toNatClampNeg (f50 x2.toNatClampNeg)))), ((r 51), .inl (cI, 22, .inl (upd f51 x1.toNatClampNeg (f51 x2.toNatClampNeg)))), ((r 52), .inl (cI, 22, .inl f52)), ((r 53), .inl (cI, 22, .inl f53)), ((r 54), .inl (cI, 1100, .inl f54)), ((r 55), .inl (cI, 1100, .inl f55)), ((r 56), .inl (cI, 1100, .inl f56)), ((r 57), .inl (cI, 1100, .inl f57))]) hx hb hK hP hD hS 3 0 rfl rfl (iR_vp hx1 (by decide +kernel)) rfl rfl dX7_copies_35 (fun H locs hP hD hS => ?_)
  refine lv_aload_n hx hb dX7_copies_36 rfl (lv_at hl 0 rfl) ?_
  refine k_get (D := (dC, dI)) (ci := 7) (v := .ref (r 52)) (C := RX7) (T := TX7) (N := 92) hx hb hts hinX7 hown hK hP 0 rfl rfl 52 (by decide) w_3 rfl rfl dX7_copies_37 ?_
  refine lv_iload_n hx hb dX7_copies_40 rfl (lv_at hl 1 rfl) ?_
  refine lv_aload_n hx hb dX7_copies_41 rfl (lv_at hl 0 rfl) ?_
  refine k_get (D := (dC, dI)) (ci := 7) (v := .ref (r 52)) (C := RX7) (T := TX7) (N := 92) hx hb hts hinX7 hown hK hP 0 rfl rfl 52 (by decide) w_3 rfl rfl dX7_copies_42 ?_
  refine lv_iload_n hx hb dX7_copies_45 rfl (lv_at hl 2 rfl) ?_
  refine va_iald hx hb hK hP 4 0 rfl rfl (iR_vp hx2 (by decide +kernel)) dX7_copies_46 ?_
  refine s_iast (g := (upd f52 x1.toNatClampNeg (f52 x2.toNatClampNeg))) (ws' := [(h, .inr (7, oM r i j)), ((r 49), .inl (cI, 22, .inl (upd f49 x1.toNatClampNeg (f49 x2.toNatClampNeg)))), ((r 50), .inl (cI, 22, .inl (upd f50 x1.toNatClampNeg (f50 x2.toNatClampNeg)))), ((r 51), .inl (cI, 22, .inl (upd f51 x1.toNatClampNeg (f51 x2.toNatClampNeg)))), ((r 52), .inl (cI, 22, .inl (upd f52 x1.toNatClampNeg (f52 x2.toNatClampNeg)))), ((r 53), .inl (cI, 22, .inl f53)), ((r 54), .inl (cI, 1100, .inl f54)), ((r 55), .inl (cI, 1100, .inl f55)), ((r 56), .inl (cI, 1100, .inl f56)), ((r 57), .inl (cI, 1100, .inl f57))]) hx hb hK hP hD hS 4 0 rfl rfl (iR_vp hx1 (by decide +kernel)) rfl rfl dX7_copies_47 (fun H locs hP hD hS => ?_)
  refine lv_aload_n hx hb dX7_copies_48 rfl (lv_at hl 0 rfl) ?_
  refine k_get (D := (dC, dI)) (ci := 7) (v := .ref (r 53)) (C := RX7) (T := TX7) (N := 92) hx hb hts hinX7 hown hK hP 0 rfl rfl 53 (by decide) w_4 rfl rfl dX7_copies_49 ?_
  refine lv_iload_n hx hb dX7_copies_52 rfl (lv_at hl 1 rfl) ?_
  refine lv_aload_n hx hb dX7_copies_53 rfl (lv_at hl 0 rfl) ?_
  refine k_get (D := (dC, dI)) (ci := 7) (v := .ref (r 53)) (C := RX7) (T := TX7) (N := 92) hx hb hts hinX7 hown hK hP 0 rfl rfl 53 (by decide) w_4 rfl rfl dX7_copies_54 ?_
  refine lv_iload_n hx hb dX7_copies_57 rfl (lv_at hl 2 rfl) ?_
  refine va_iald hx hb hK hP 5 0 rfl rfl (iR_vp hx2 (by decide +kernel)) dX7_copies_58 ?_
  have f_58_3 : iR (f53 x2.toNatClampNeg) 0 50 := hf53 _
  refine s_iast (g := (upd f53 x1.toNatClampNeg (f53 x2.toNatClampNeg))) (ws' := [(h, .inr (7, oM r i j)), ((r 49), .inl (cI, 22, .inl (upd f49 x1.toNatClampNeg (f49 x2.toNatClampNeg)))), ((r 50), .inl (cI, 22, .inl (upd f50 x1.toNatClampNeg (f50 x2.toNatClampNeg)))), ((r 51), .inl (cI, 22, .inl (upd f51 x1.toNatClampNeg (f51 x2.toNatClampNeg)))), ((r 52), .inl (cI, 22, .inl (upd f52 x1.toNatClampNeg (f52 x2.toNatClampNeg)))), ((r 53), .inl (cI, 22, .inl (upd f53 x1.toNatClampNeg (f53 x2.toNatClampNeg)))), ((r 54), .inl (cI, 1100, .inl f54)), ((r 55), .inl (cI, 1100, .inl f55)), ((r 56), .inl (cI, 1100, .inl f56)), ((r 57), .inl (cI, 1100, .inl f57))]) hx hb hK hP hD hS 5 0 rfl rfl (iR_vp hx1 (by decide +kernel)) rfl rfl dX7_copies_59 (fun H locs hP hD hS => ?_)
  refine lv_iconst (v := 0) hx hb dX7_copies_60 (by decide +kernel) ?_
  have J_62 : ∀ (n_62 : Nat) (j62_A6 : Nat → Int32) (j62_A7 : Nat → Int32) (j62_A8 : Nat → Int32) (j62_A9 : Nat → Int32) (j62_L3 : Int32) (hj62_L3 : iR j62_L3 0 50) (hm_62 : (50 - j62_L3.toInt).toNat < n_62) (H : Heap) (locs : List Loc) (ls : Array Slot), va_P (dC, dI) vwCl [(h, .inr (7, oM r i j)), ((r 49), .inl (cI, 22, .inl (upd f49 x1.toNatClampNeg (f49 x2.toNatClampNeg)))), ((r 50), .inl (cI, 22, .inl (upd f50 x1.toNatClampNeg (f50 x2.toNatClampNeg)))), ((r 51), .inl (cI, 22, .inl (upd f51 x1.toNatClampNeg (f51 x2.toNatClampNeg)))), ((r 52), .inl (cI, 22, .inl (upd f52 x1.toNatClampNeg (f52 x2.toNatClampNeg)))), ((r 53), .inl (cI, 22, .inl (upd f53 x1.toNatClampNeg (f53 x2.toNatClampNeg)))), ((r 54), .inl (cI, 1100, .inl j62_A6)), ((r 55), .inl (cI, 1100, .inl j62_A7)), ((r 56), .inl (cI, 1100, .inl j62_A8)), ((r 57), .inl (cI, 1100, .inl j62_A9))] H → va_D A [(h, .inr (7, oM r i j)), ((r 49), .inl (cI, 22, .inl (upd f49 x1.toNatClampNeg (f49 x2.toNatClampNeg)))), ((r 50), .inl (cI, 22, .inl (upd f50 x1.toNatClampNeg (f50 x2.toNatClampNeg)))), ((r 51), .inl (cI, 22, .inl (upd f51 x1.toNatClampNeg (f51 x2.toNatClampNeg)))), ((r 52), .inl (cI, 22, .inl (upd f52 x1.toNatClampNeg (f52 x2.toNatClampNeg)))), ((r 53), .inl (cI, 22, .inl (upd f53 x1.toNatClampNeg (f53 x2.toNatClampNeg)))), ((r 54), .inl (cI, 1100, .inl j62_A6)), ((r 55), .inl (cI, 1100, .inl j62_A7)), ((r 56), .inl (cI, 1100, .inl j62_A8)), ((r 57), .inl (cI, 1100, .inl j62_A9))] → va_S A s.heap H locs → lv_has ls 4 [(0, .ref h), (1, .int x1), (2, .int x2), (3, .int j62_L3)] → W p l e ({ frames := 1, cells := 0, slots := 0, locals := 40 }) s m args below meth c H locs 0 0 (MQ below (va_Qv (fun (u9 : SU) => True) (fun u => k_B (dC, dI) vwCl (tyy cI cJ cZ cM) A ((fun (u9 : SU) => [(h, .inr (7, oM r i j)), ((r 49), .inl (cI, 22, .inl (upd f49 x1.toNatClampNeg (f49 x2.toNatClampNeg)))), ((r 50), .inl (cI, 22, .inl (upd f50 x1.toNatClampNeg (f50 x2.toNatClampNeg)))), ((r 51), .inl (cI, 22, .inl (upd f51 x1.toNatClampNeg (f51 x2.toNatClampNeg)))), ((r 52), .inl (cI, 22, .inl (upd f52 x1.toNatClampNeg (f52 x2.toNatClampNeg)))), ((r 53), .inl (cI, 22, .inl (upd f53 x1.toNatClampNeg (f53 x2.toNatClampNeg)))), ((r 54), .inl (cI, 1100, .inl (u9.2.2.1 0))), ((r 55), .inl (cI, 1100, .inl (u9.2.2.1 1))), ((r 56), .inl (cI, 1100, .inl (u9.2.2.1 2))), ((r 57), .inl (cI, 1100, .inl (u9.2.2.1 3)))]) u)) A) args s 0 0 A) (F0 m 62 ls []) := by
    intro n_62
    induction n_62 with
    | zero => intro j62_A6 j62_A7 j62_A8 j62_A9 j62_L3 hj62_L3 hm_62; exact absurd hm_62 (Nat.not_lt_zero _)
    | succ n_62 ih_62 =>
      intro j62_A6 j62_A7 j62_A8 j62_A9 j62_L3 hj62_L3 hm_62 H locs ls hP hD hS hl
      refine lv_iload_n hx hb dX7_copies_62 rfl (lv_at hl 3 rfl) ?_
      refine lv_aload_n hx hb dX7_copies_63 rfl (lv_at hl 0 rfl) ?_
      refine k_get (D := (dC, dI)) (ci := 7) (v := .ref (r 53)) (C := RX7) (T := TX7) (N := 92) hx hb hts hinX7 hown hK hP 0 rfl rfl 53 (by decide) w_4 rfl rfl dX7_copies_64 ?_
      refine lv_iload_n hx hb dX7_copies_67 rfl (lv_at hl 2 rfl) ?_
      refine va_iald hx hb hK hP 5 0 rfl rfl (iR_vp hx2 (by decide +kernel)) dX7_copies_68 ?_
      refine lv_topi (fun y_68 ey_68 => ?_)
      have f_68_1 : iR y_68 0 50 := iR_of ey_68 ((aR_upd _ hf53 f_58_3) _)
      refine lv_icmp_ge (tgt := 166) hx hb dX7_copies_69 (by decide) (fun c_69 => ?_) (fun c_69 => ?_)
      · have c_69 : y_68 ≤ j62_L3 := c_69
        exact k_rv B hP hD hS dX7_copies_166 ((fun _ => 0), (fun _ => 0), (fun k9 => match k9 with | 0 => j62_A6 | 1 => j62_A7 | 2 => j62_A8 | 3 => j62_A9 | _ => (fun _ => 0)), (fun _ => (fun _ => 0)), (fun _ => 0)) [0, 1, 2, 3, 4, 5, 6, 7, 8, 9] rfl rfl (Nat.le_of_ble_eq_true rfl) (Nat.le_of_ble_eq_true rfl) trivial
      · have c_69 : j62_L3 < y_68 := i_nle c_69
        have f_72_2 : iR j62_L3 0 49 := iR_ltL c_69 hj62_L3 f_68_1 (by decide +kernel)
        have f_72_3 : iR y_68 1 50 := iR_ltR c_69 hj62_L3 f_68_1 (by decide +kernel)
        refine lv_aload_n hx hb dX7_copies_72 rfl (lv_at hl 0 rfl) ?_
        refine k_get (D := (dC, dI)) (ci := 7) (v := .ref (r 54)) (C := RX7) (T := TX7) (N := 92) hx hb hts hinX7 hown hK hP 0 rfl rfl 54 (by decide) w_5 rfl rfl dX7_copies_73 ?_
        refine lv_bipush (v := 50) hx hb dX7_copies_76 (by decide +kernel) ?_
        refine lv_iload_n hx hb dX7_copies_78 rfl (lv_at hl 1 rfl) ?_
        refine lv_imul hx hb dX7_copies_79 ?_
        refine lv_topi (fun y_79 ey_79 => ?_)
        have f_79_4 : iR y_79 0 1050 := iR_mul ey_79 (iR_c (n := 50) (a := 50) (b := 50) (by decide +kernel) (by decide +kernel)) hx1 (by decide +kernel)
        refine lv_iload_n hx hb dX7_copies_80 rfl (lv_at hl 3 rfl) ?_
        refine lv_iadd hx hb dX7_copies_81 ?_
        refine lv_topi (fun y_81 ey_81 => ?_)
        have f_81_5 : iR y_81 0 1099 := iR_add ey_81 f_79_4 f_72_2 (by decide +kernel)
        refine lv_aload_n hx hb dX7_copies_82 rfl (lv_at hl 0 rfl) ?_
        refine k_get (D := (dC, dI)) (ci := 7) (v := .ref (r 54)) (C := RX7) (T := TX7) (N := 92) hx hb hts hinX7 hown hK hP 0 rfl rfl 54 (by decide) w_5 rfl rfl dX7_copies_83 ?_
        refine lv_bipush (v := 50) hx hb dX7_copies_86 (by decide +kernel) ?_
        refine lv_iload_n hx hb dX7_copies_88 rfl (lv_at hl 2 rfl) ?_
        refine lv_imul hx hb dX7_copies_89 ?_
        refine lv_topi (fun y_89 ey_89 => ?_)
        have f_89_6 : iR y_89 0 1050 := iR_mul ey_89 (iR_c (n := 50) (a := 50) (b := 50) (by decide +kernel) (by decide +kernel)) hx2 (by decide +kernel)
        refine lv_iload_n hx hb dX7_copies_90 rfl (lv_at hl 3 rfl) ?_
        refine lv_iadd hx hb dX7_copies_91 ?_
        refine lv_topi (fun y_91 ey_91 => ?_)
        have f_91_7 : iR y_91 0 1099 := iR_add ey_91 f_89_6 f_72_2 (by decide +kernel)
        refine va_iald hx hb hK hP 6 0 rfl rfl (iR_vp f_91_7 (by decide +kernel)) dX7_copies_92 ?_
        refine s_iast (g := (upd j62_A6 y_81.toNatClampNeg (j62_A6 y_91.toNatClampNeg))) (ws' := [(h, .inr (7, oM r i j)), ((r 49), .inl (cI, 22, .inl (upd f49 x1.toNatClampNeg (f49 x2.toNatClampNeg)))), ((r 50), .inl (cI, 22, .inl (upd f50 x1.toNatClampNeg (f50 x2.toNatClampNeg)))), ((r 51), .inl (cI, 22, .inl (upd f51 x1.toNatClampNeg (f51 x2.toNatClampNeg)))), ((r 52), .inl (cI, 22, .inl (upd f52 x1.toNatClampNeg (f52 x2.toNatClampNeg)))), ((r 53), .inl (cI, 22, .inl (upd f53 x1.toNatClampNeg (f53 x2.toNatClampNeg)))), ((r 54), .inl (cI, 1100, .inl (upd j62_A6 y_81.toNatClampNeg (j62_A6 y_91.toNatClampNeg)))), ((r 55), .inl (cI, 1100, .inl j62_A7)), ((r 56), .inl (cI, 1100, .inl j62_A8)), ((r 57), .inl (cI, 1100, .inl j62_A9))]) hx hb hK hP hD hS 6 0 rfl rfl (iR_vp f_81_5 (by decide +kernel)) rfl rfl dX7_copies_93 (fun H locs hP hD hS => ?_)
        refine lv_aload_n hx hb dX7_copies_94 rfl (lv_at hl 0 rfl) ?_
        refine k_get (D := (dC, dI)) (ci := 7) (v := .ref (r 55)) (C := RX7) (T := TX7) (N := 92) hx hb hts hinX7 hown hK hP 0 rfl rfl 55 (by decide) w_6 rfl rfl dX7_copies_95 ?_
        refine lv_bipush (v := 50) hx hb dX7_copies_98 (by decide +kernel) ?_
        refine lv_iload_n hx hb dX7_copies_100 rfl (lv_at hl 1 rfl) ?_
        refine lv_imul hx hb dX7_copies_101 ?_
        refine lv_topi (fun y_101 ey_101 => ?_)
        have f_101_8 : iR y_101 0 1050 := iR_mul ey_101 (iR_c (n := 50) (a := 50) (b := 50) (by decide +kernel) (by decide +kernel)) hx1 (by decide +kernel)
        refine lv_iload_n hx hb dX7_copies_102 rfl (lv_at hl 3 rfl) ?_
        refine lv_iadd hx hb dX7_copies_103 ?_
        refine lv_topi (fun y_103 ey_103 => ?_)
        have f_103_9 : iR y_103 0 1099 := iR_add ey_103 f_101_8 f_72_2 (by decide +kernel)
        refine lv_aload_n hx hb dX7_copies_104 rfl (lv_at hl 0 rfl) ?_
        refine k_get (D := (dC, dI)) (ci := 7) (v := .ref (r 55)) (C := RX7) (T := TX7) (N := 92) hx hb hts hinX7 hown hK hP 0 rfl rfl 55 (by decide) w_6 rfl rfl dX7_copies_105 ?_
        refine lv_bipush (v := 50) hx hb dX7_copies_108 (by decide +kernel) ?_
        refine lv_iload_n hx hb dX7_copies_110 rfl (lv_at hl 2 rfl) ?_
        refine lv_imul hx hb dX7_copies_111 ?_
        refine lv_topi (fun y_111 ey_111 => ?_)
        have f_111_10 : iR y_111 0 1050 := iR_mul ey_111 (iR_c (n := 50) (a := 50) (b := 50) (by decide +kernel) (by decide +kernel)) hx2 (by decide +kernel)
        refine lv_iload_n hx hb dX7_copies_112 rfl (lv_at hl 3 rfl) ?_
        refine lv_iadd hx hb dX7_copies_113 ?_
        refine lv_topi (fun y_113 ey_113 => ?_)
        have f_113_11 : iR y_113 0 1099 := iR_add ey_113 f_111_10 f_72_2 (by decide +kernel)
        refine va_iald hx hb hK hP 7 0 rfl rfl (iR_vp f_113_11 (by decide +kernel)) dX7_copies_114 ?_
        refine s_iast (g := (upd j62_A7 y_103.toNatClampNeg (j62_A7 y_113.toNatClampNeg))) (ws' := [(h, .inr (7, oM r i j)), ((r 49), .inl (cI, 22, .inl (upd f49 x1.toNatClampNeg (f49 x2.toNatClampNeg)))), ((r 50), .inl (cI, 22, .inl (upd f50 x1.toNatClampNeg (f50 x2.toNatClampNeg)))), ((r 51), .inl (cI, 22, .inl (upd f51 x1.toNatClampNeg (f51 x2.toNatClampNeg)))), ((r 52), .inl (cI, 22, .inl (upd f52 x1.toNatClampNeg (f52 x2.toNatClampNeg)))), ((r 53), .inl (cI, 22, .inl (upd f53 x1.toNatClampNeg (f53 x2.toNatClampNeg)))), ((r 54), .inl (cI, 1100, .inl (upd j62_A6 y_81.toNatClampNeg (j62_A6 y_91.toNatClampNeg)))), ((r 55), .inl (cI, 1100, .inl (upd j62_A7 y_103.toNatClampNeg (j62_A7 y_113.toNatClampNeg)))), ((r 56), .inl (cI, 1100, .inl j62_A8)), ((r 57), .inl (cI, 1100, .inl j62_A9))]) hx hb hK hP hD hS 7 0 rfl rfl (iR_vp f_103_9 (by decide +kernel)) rfl rfl dX7_copies_115 (fun H locs hP hD hS => ?_)
        refine lv_aload_n hx hb dX7_copies_116 rfl (lv_at hl 0 rfl) ?_
        refine k_get (D := (dC, dI)) (ci := 7) (v := .ref (r 56)) (C := RX7) (T := TX7) (N := 92) hx hb hts hinX7 hown hK hP 0 rfl rfl 56 (by decide) w_7 rfl rfl dX7_copies_117 ?_
        refine lv_bipush (v := 50) hx hb dX7_copies_120 (by decide +kernel) ?_
        refine lv_iload_n hx hb dX7_copies_122 rfl (lv_at hl 1 rfl) ?_
        refine lv_imul hx hb dX7_copies_123 ?_
        refine lv_topi (fun y_123 ey_123 => ?_)
        have f_123_12 : iR y_123 0 1050 := iR_mul ey_123 (iR_c (n := 50) (a := 50) (b := 50) (by decide +kernel) (by decide +kernel)) hx1 (by decide +kernel)
        refine lv_iload_n hx hb dX7_copies_124 rfl (lv_at hl 3 rfl) ?_
        refine lv_iadd hx hb dX7_copies_125 ?_
        refine lv_topi (fun y_125 ey_125 => ?_)
        have f_125_13 : iR y_125 0 1099 := iR_add ey_125 f_123_12 f_72_2 (by decide +kernel)
        refine lv_aload_n hx hb dX7_copies_126 rfl (lv_at hl 0 rfl) ?_
        refine k_get (D := (dC, dI)) (ci := 7) (v := .ref (r 56)) (C := RX7) (T := TX7) (N := 92) hx hb hts hinX7 hown hK hP 0 rfl rfl 56 (by decide) w_7 rfl rfl dX7_copies_127 ?_
        refine lv_bipush (v := 50) hx hb dX7_copies_130 (by decide +kernel) ?_
        refine lv_iload_n hx hb dX7_copies_132 rfl (lv_at hl 2 rfl) ?_
        refine lv_imul hx hb dX7_copies_133 ?_
        refine lv_topi (fun y_133 ey_133 => ?_)
        have f_133_14 : iR y_133 0 1050 := iR_mul ey_133 (iR_c (n := 50) (a := 50) (b := 50) (by decide +kernel) (by decide +kernel)) hx2 (by decide +kernel)
        refine lv_iload_n hx hb dX7_copies_134 rfl (lv_at hl 3 rfl) ?_
        refine lv_iadd hx hb dX7_copies_135 ?_
        refine lv_topi (fun y_135 ey_135 => ?_)
        have f_135_15 : iR y_135 0 1099 := iR_add ey_135 f_133_14 f_72_2 (by decide +kernel)
        refine va_iald hx hb hK hP 8 0 rfl rfl (iR_vp f_135_15 (by decide +kernel)) dX7_copies_136 ?_
        refine s_iast (g := (upd j62_A8 y_125.toNatClampNeg (j62_A8 y_135.toNatClampNeg))) (ws' := [(h, .inr (7, oM r i j)), ((r 49), .inl (cI, 22, .inl (upd f49 x1.toNatClampNeg (f49 x2.toNatClampNeg)))), ((r 50), .inl (cI, 22, .inl (upd f50 x1.toNatClampNeg (f50 x2.toNatClampNeg)))), ((r 51), .inl (cI, 22, .inl (upd f51 x1.toNatClampNeg (f51 x2.toNatClampNeg)))), ((r 52), .inl (cI, 22, .inl (upd f52 x1.toNatClampNeg (f52 x2.toNatClampNeg)))), ((r 53), .inl (cI, 22, .inl (upd f53 x1.toNatClampNeg (f53 x2.toNatClampNeg)))), ((r 54), .inl (cI, 1100, .inl (upd j62_A6 y_81.toNatClampNeg (j62_A6 y_91.toNatClampNeg)))), ((r 55), .inl (cI, 1100, .inl (upd j62_A7 y_103.toNatClampNeg (j62_A7 y_113.toNatClampNeg)))), ((r 56), .inl (cI, 1100, .inl (upd j62_A8 y_125.toNatClampNeg (j62_A8 y_135.toNatClampNeg)))), ((r 57), .inl (cI, 1100, .inl j62_A9))]) hx hb hK hP hD hS 8 0 rfl rfl (iR_vp f_125_13 (by decide +kernel)) rfl rfl dX7_copies_137 (fun H locs hP hD hS => ?_)
        refine lv_aload_n hx hb dX7_copies_138 rfl (lv_at hl 0 rfl) ?_
        refine k_get (D := (dC, dI)) (ci := 7) (v := .ref (r 57)) (C := RX7) (T := TX7) (N := 92) hx hb hts hinX7 hown hK hP 0 rfl rfl 57 (by decide) w_8 rfl rfl dX7_copies_139 ?_
        refine lv_bipush (v := 50) hx hb dX7_copies_142 (by decide +kernel) ?_
        refine lv_iload_n hx hb dX7_copies_144 rfl (lv_at hl 1 rfl) ?_
        refine lv_imul hx hb dX7_copies_145 ?_
        refine lv_topi (fun y_145 ey_145 => ?_)
        have f_145_16 : iR y_145 0 1050 := iR_mul ey_145 (iR_c (n := 50) (a := 50) (b := 50) (by decide +kernel) (by decide +kernel)) hx1 (by decide +kernel)
        refine lv_iload_n hx hb dX7_copies_146 rfl (lv_at hl 3 rfl) ?_
        refine lv_iadd hx hb dX7_copies_147 ?_
        refine lv_topi (fun y_147 ey_147 => ?_)
        have f_147_17 : iR y_147 0 1099 := iR_add ey_147 f_145_16 f_72_2 (by decide +kernel)
        refine lv_aload_n hx hb dX7_copies_148 rfl (lv_at hl 0 rfl) ?_
        refine k_get (D := (dC, dI)) (ci := 7) (v := .ref (r 57)) (C := RX7) (T := TX7) (N := 92) hx hb hts hinX7 hown hK hP 0 rfl rfl 57 (by decide) w_8 rfl rfl dX7_copies_149 ?_
        refine lv_bipush (v := 50) hx hb dX7_copies_152 (by decide +kernel) ?_
        refine lv_iload_n hx hb dX7_copies_154 rfl (lv_at hl 2 rfl) ?_
        refine lv_imul hx hb dX7_copies_155 ?_
        refine lv_topi (fun y_155 ey_155 => ?_)
        have f_155_18 : iR y_155 0 1050 := iR_mul ey_155 (iR_c (n := 50) (a := 50) (b := 50) (by decide +kernel) (by decide +kernel)) hx2 (by decide +kernel)
        refine lv_iload_n hx hb dX7_copies_156 rfl (lv_at hl 3 rfl) ?_
        refine lv_iadd hx hb dX7_copies_157 ?_
        refine lv_topi (fun y_157 ey_157 => ?_)
        have f_157_19 : iR y_157 0 1099 := iR_add ey_157 f_155_18 f_72_2 (by decide +kernel)
        refine va_iald hx hb hK hP 9 0 rfl rfl (iR_vp f_157_19 (by decide +kernel)) dX7_copies_158 ?_
        refine s_iast (g := (upd j62_A9 y_147.toNatClampNeg (j62_A9 y_157.toNatClampNeg))) (ws' := [(h, .inr (7, oM r i j)), ((r 49), .inl (cI, 22, .inl (upd f49 x1.toNatClampNeg (f49 x2.toNatClampNeg)))), ((r 50), .inl (cI, 22, .inl (upd f50 x1.toNatClampNeg (f50 x2.toNatClampNeg)))), ((r 51), .inl (cI, 22, .inl (upd f51 x1.toNatClampNeg (f51 x2.toNatClampNeg)))), ((r 52), .inl (cI, 22, .inl (upd f52 x1.toNatClampNeg (f52 x2.toNatClampNeg)))), ((r 53), .inl (cI, 22, .inl (upd f53 x1.toNatClampNeg (f53 x2.toNatClampNeg)))), ((r 54), .inl (cI, 1100, .inl (upd j62_A6 y_81.toNatClampNeg (j62_A6 y_91.toNatClampNeg)))), ((r 55), .inl (cI, 1100, .inl (upd j62_A7 y_103.toNatClampNeg (j62_A7 y_113.toNatClampNeg)))), ((r 56), .inl (cI, 1100, .inl (upd j62_A8 y_125.toNatClampNeg (j62_A8 y_135.toNatClampNeg)))), ((r 57), .inl (cI, 1100, .inl (upd j62_A9 y_147.toNatClampNeg (j62_A9 y_157.toNatClampNeg))))]) hx hb hK hP hD hS 9 0 rfl rfl (iR_vp f_147_17 (by decide +kernel)) rfl rfl dX7_copies_159 (fun H locs hP hD hS => ?_)
        obtain ⟨y_160, ey_160⟩ : ∃ y : Int32, y = j62_L3 + 1 := ⟨_, rfl⟩
        refine lv_iinc (v := y_160) (lv' := [(3, .int y_160), (0, .ref h), (1, .int x1), (2, .int x2)]) hx hb dX7_copies_160 hl (k := 3) rfl ey_160.symm (by decide) rfl (fun ls hl => ?_)
        have f_160_20 : iR y_160 1 50 := iR_add ey_160 f_72_2 (iR_c (n := 1) (a := 1) (b := 1) (by decide +kernel) (by decide +kernel)) (by decide +kernel)
        refine lv_goto (tgt := 62) hx hb dX7_copies_163 (by decide) ?_
        exact ih_62 (upd j62_A6 y_81.toNatClampNeg (j62_A6 y_91.toNatClampNeg)) (upd j62_A7 y_103.toNatClampNeg (j62_A7 y_113.toNatClampNeg)) (upd j62_A8 y_125.toNatClampNeg (j62_A8 y_135.toNatClampNeg)) (upd j62_A9 y_147.toNatClampNeg (j62_A9 y_157.toNatClampNeg)) y_160 (iR_w f_160_20 (by decide +kernel)) (m_up (B := 50) hm_62 ey_160 f_72_2 (by decide +kernel)) H locs ls hP hD hS (lv_sub hl [1, 2, 3, 0] rfl)
  refine lv_istore_n (lv' := [(3, .int 0), (0, .ref h), (1, .int x1), (2, .int x2)]) hx hb dX7_copies_61 rfl hl (by decide) rfl (fun ls hl => ?_)
  exact J_62 _ f54 f55 f56 f57 0 (iR_c (n := 0) (a := 0) (b := 50) (by decide +kernel) (by decide +kernel)) (Nat.lt_succ_self _) H locs ls hP hD hS (lv_sub hl [1, 2, 3, 0] rfl)
set_option maxHeartbeats 8000000 in
set_option maxRecDepth 100000 in
theorem s_X7_refuses_v4 (l : Launch) (dC : Nat → ClassId) (dI : Nat → Nat → Nat) (cI cJ cZ cM : ClassId) (h : Nat) (r : Nat → Nat) (i : Nat → Int32) (j : Nat → Int64) (x1 : Int32) (f48 : Nat → Int32) (hx1 : iR x1 0 5) (hI : mR i) : k_Mi l yX7_refuses wsX7_refuses ({ frames := 1, cells := 0, slots := 0, locals := 40 }) (dC, dI) vwCl (tyy cI cJ cZ cM) [(h, .inr (7, oM r i j)), ((r 48), .inl (cI, 6, .inl f48))] [.ref h, .int x1] 0 0 (fun (u9 : SU) => [(h, .inr (7, oM r i j)), ((r 48), .inl (cI, 6, .inl (u9.2.2.1 0)))]) (fun (r9 : Int32) (u9 : SU) => (r9 = (-1))) := by
  refine fun sz => k_enter (cc := cX7_refuses) (maxL := 2) (ret := some (.int)) (Qc := fun A => va_Qi (fun (r9 : Int32) (u9 : SU) => (r9 = (-1))) (fun u => k_B (dC, dI) vwCl (tyy cI cJ cZ cM) A ((fun (u9 : SU) => [(h, .inr (7, oM r i j)), ((r 48), .inl (cI, 6, .inl (u9.2.2.1 0)))]) u)) A) sz (by decide +kernel) rfl (Nat.le_of_ble_eq_true rfl) (fun p e s m args below meth c A ls H locs B hP hD hS hl => ?_)
  obtain ⟨hx, hb, hml, hown, hts, hr, hlk, hnm, hK, hA, hN, hC⟩ := id B
  have hown : s.vm.findClass RX7 = some m.cls := hown
  have hl : lv_has ls 2 [(0, .ref h), (1, .int x1)] := hl
  have w_0 : (Cond.fieldLink RX7 159 "WishSeaModel" "refused" "[I").before args s = true := hts _ (List.mem_of_getElem? (i := 1) rfl)
  have hinX7 : ∀ w ∈ u_ws RX7 TX7 92, w ∈ wsX7_refuses := fun _ h => List.mem_cons_of_mem _ (List.mem_append_right _ h)
  refine lv_aload_n hx hb dX7_refuses_0 rfl (lv_at hl 0 rfl) ?_
  refine k_get (D := (dC, dI)) (ci := 7) (v := .ref (r 48)) (C := RX7) (T := TX7) (N := 92) hx hb hts hinX7 hown hK hP 0 rfl rfl 48 (by decide) w_0 rfl rfl dX7_refuses_1 ?_
  refine lv_iload_n hx hb dX7_refuses_4 rfl (lv_at hl 1 rfl) ?_
  refine lv_dup2_11 hx hb dX7_refuses_5 rfl rfl ?_
  refine va_iald hx hb hK hP 1 0 rfl rfl (iR_vp hx1 (by decide +kernel)) dX7_refuses_6 ?_
  refine lv_iconst (v := 1) hx hb dX7_refuses_7 (by decide +kernel) ?_
  refine lv_iadd hx hb dX7_refuses_8 ?_
  refine lv_topi (fun y_8 ey_8 => ?_)
  refine s_iast (g := (upd f48 x1.toNatClampNeg y_8)) (ws' := [(h, .inr (7, oM r i j)), ((r 48), .inl (cI, 6, .inl (upd f48 x1.toNatClampNeg y_8)))]) hx hb hK hP hD hS 1 0 rfl rfl (iR_vp hx1 (by decide +kernel)) rfl rfl dX7_refuses_9 (fun H locs hP hD hS => ?_)
  refine lv_iconst (v := (-1)) hx hb dX7_refuses_10 (by decide +kernel) ?_
  exact k_ri B hP hD hS dX7_refuses_11 ((fun _ => 0), (fun _ => 0), (fun k9 => match k9 with | 0 => (upd f48 x1.toNatClampNeg y_8) | _ => (fun _ => 0)), (fun _ => (fun _ => 0)), (fun _ => 0)) [0, 1] rfl rfl rfl (Nat.le_of_ble_eq_true rfl) (Nat.le_of_ble_eq_true rfl) rfl
set_option maxHeartbeats 8000000 in
set_option maxRecDepth 100000 in
theorem s_X7_undo_v0 (l : Launch) (dC : Nat → ClassId) (dI : Nat → Nat → Nat) (cI cJ cZ cM : ClassId) (h : Nat) (r : Nat → Nat) (i : Nat → Int32) (j : Nat → Int64) (f48 : Nat → Int32) (f49 : Nat → Int32) (f50 : Nat → Int32) (f51 : Nat → Int32) (f52 : Nat → Int32) (f53 : Nat → Int32) (f54 : Nat → Int32) (f55 : Nat → Int32) (f56 : Nat → Int32) (f57 : Nat → Int32) (hI : mR i) (hf49 : aR f49 0 1023) (hf50 : aR f50 0 999) (hf53 : aR f53 0 50) : k_Mi l yX7_undo wsX7_undo ({ frames := 2, cells := 0, slots := 0, locals := 63 }) (dC, dI) vwCl (tyy cI cJ cZ cM) [(h, .inr (7, oM r i j)), ((r 48), .inl (cI, 6, .inl f48)), ((r 49), .inl (cI, 22, .inl f49)), ((r 50), .inl (cI, 22, .inl f50)), ((r 51), .inl (cI, 22, .inl f51)), ((r 52), .inl (cI, 22, .inl f52)), ((r 53), .inl (cI, 22, .inl f53)), ((r 54), .inl (cI, 1100, .inl f54)), ((r 55), .inl (cI, 1100, .inl f55)), ((r 56), .inl (cI, 1100, .inl f56)), ((r 57), .inl (cI, 1100, .inl f57))] [.ref h] 0 0 (fun (u9 : SU) => [(h, .inr (7, oM r (upd i 59 (u9.1 0)) j)), ((r 48), .inl (cI, 6, .inl (u9.2.2.1 0))), ((r 49), .inl (cI, 22, .inl (u9.2.2.1 1))), ((r 50), .inl (cI, 22, .inl (u9.2.2.1 2))), ((r 51), .inl (cI, 22, .inl (u9.2.2.1 3))), ((r 52), .inl (cI, 22, .inl (u9.2.2.1 4))), ((r 53), .inl (cI, 22, .inl (u9.2.2.1 5))), ((r 54), .inl (cI, 1100, .inl (u9.2.2.1 6))), ((r 55), .inl (cI, 1100, .inl (u9.2.2.1 7))), ((r 56), .inl (cI, 1100, .inl (u9.2.2.1 8))), ((r 57), .inl (cI, 1100, .inl (u9.2.2.1 9)))]) (fun (r9 : Int32) (u9 : SU) => (iR r9 0 1) ∧ (iR (u9.1 0) 0 19) ∧ (aR (u9.2.2.1 1) 0 1023) ∧ (aR (u9.2.2.1 2) 0 999) ∧ (aR (u9.2.2.1 5) 0 50)) := by
  refine fun sz => k_enter (cc := cX7_undo) (maxL := 1) (ret := some (.boolean)) (Qc := fun A => va_Qi (fun (r9 : Int32) (u9 : SU) => (iR r9 0 1) ∧ (iR (u9.1 0) 0 19) ∧ (aR (u9.2.2.1 1) 0 1023) ∧ (aR (u9.2.2.1 2) 0 999) ∧ (aR (u9.2.2.1 5) 0 50)) (fun u => k_B (dC, dI) vwCl (tyy cI cJ cZ cM) A ((fun (u9 : SU) => [(h, .inr (7, oM r (upd i 59 (u9.1 0)) j)), ((r 48), .inl (cI, 6, .inl (u9.2.2.1 0))), ((r 49), .inl (cI, 22, .inl (u9.2.2.1 1))), ((r 50), .inl (cI, 22, .inl (u9.2.2.1 2))), ((r 51), .inl (cI, 22, .inl (u9.2.2.1 3))), ((r 52), .inl (cI, 22, .inl (u9.2.2.1 4))), ((r 53), .inl (cI, 22, .inl (u9.2.2.1 5))), ((r 54), .inl (cI, 1100, .inl (u9.2.2.1 6))), ((r 55), .inl (cI, 1100, .inl (u9.2.2.1 7))), ((r 56), .inl (cI, 1100, .inl (u9.2.2.1 8))), ((r 57), .inl (cI, 1100, .inl (u9.2.2.1 9)))]) u)) A) sz (by decide +kernel) rfl (Nat.le_of_ble_eq_true rfl) (fun p e s m args below meth c A ls H locs B hP hD hS hl => ?_)
  obtain ⟨hx, hb, hml, hown, hts, hr, hlk, hnm, hK, hA, hN, hC⟩ := id B
  have hown : s.vm.findClass RX7 = some m.cls := hown
  have hl : lv_has ls 1 [(0, .ref h)] := hl
  have w_0 : (Cond.fieldLink RX7 192 "WishSeaModel" "undos" "I").before args s = true := hts _ (List.mem_of_getElem? (i := 1) rfl)
  have hinX7 : ∀ w ∈ u_ws RX7 TX7 92, w ∈ wsX7_undo := fun _ h => List.mem_cons_of_mem _ (List.mem_append_right _ h)
  refine lv_aload_n hx hb dX7_undo_0 rfl (lv_at hl 0 rfl) ?_
  have f_1_1 : iR (i 59) 0 20 := hI 59
  refine k_get (D := (dC, dI)) (ci := 7) (v := .int (i 59)) (C := RX7) (T := TX7) (N := 92) hx hb hts hinX7 hown hK hP 0 rfl rfl 59 (by decide) w_0 rfl rfl dX7_undo_1 ?_
  refine lv_if_ne (tgt := 21) hx hb dX7_undo_4 (by decide) (fun c_4 => ?_) (fun c_4 => ?_)
  · have c_4 : ¬ (i 59) = 0 := c_4
    have f_21_2 : iR (i 59) 1 20 := iR_neL c_4 f_1_1 (iR_c (n := 0) (a := 0) (b := 0) (by decide +kernel) (by decide +kernel)) (by decide +kernel)
    refine lv_aload_n hx hb dX7_undo_21 rfl (lv_at hl 0 rfl) ?_
    refine lv_dup hx hb dX7_undo_22 rfl ?_
    refine k_get (D := (dC, dI)) (ci := 7) (v := .int (i 59)) (C := RX7) (T := TX7) (N := 92) hx hb hts hinX7 hown hK hP 0 rfl rfl 59 (by decide) w_0 rfl rfl dX7_undo_23 ?_
    refine lv_iconst (v := 1) hx hb dX7_undo_26 (by decide +kernel) ?_
    refine lv_isub hx hb dX7_undo_27 ?_
    refine lv_topi (fun y_27 ey_27 => ?_)
    have f_27_3 : iR y_27 0 19 := iR_sub ey_27 f_21_2 (iR_c (n := 1) (a := 1) (b := 1) (by decide +kernel) (by decide +kernel)) (by decide +kernel)
    refine k_put (D := (dC, dI)) (ci := 7) (v := .int y_27) (C := RX7) (T := TX7) (N := 92) (ws' := [(h, .inr (7, oM r (upd i 59 y_27) j)), ((r 48), .inl (cI, 6, .inl f48)), ((r 49), .inl (cI, 22, .inl f49)), ((r 50), .inl (cI, 22, .inl f50)), ((r 51), .inl (cI, 22, .inl f51)), ((r 52), .inl (cI, 22, .inl f52)), ((r 53), .inl (cI, 22, .inl f53)), ((r 54), .inl (cI, 1100, .inl f54)), ((r 55), .inl (cI, 1100, .inl f55)), ((r 56), .inl (cI, 1100, .inl f56)), ((r 57), .inl (cI, 1100, .inl f57))]) hx hb hts hinX7 tyX7 tyX7_ok nmX7 hown hK hP hD hS 0 rfl rfl 59 (by decide) w_0 rfl rfl rfl rfl (Nat.le_of_ble_eq_true rfl) rfl dX7_undo_28 (fun H locs hP hD hS => ?_)
    refine lv_aload_n hx hb dX7_undo_31 rfl (lv_at hl 0 rfl) ?_
    refine lv_iconst (v := 0) hx hb dX7_undo_32 (by decide +kernel) ?_
    refine lv_aload_n hx hb dX7_undo_33 rfl (lv_at hl 0 rfl) ?_
    refine lv_aload_n hx hb dX7_undo_34 rfl (lv_at hl 0 rfl) ?_
    refine k_get (D := (dC, dI)) (ci := 7) (v := .int y_27) (C := RX7) (T := TX7) (N := 92) hx hb hts hinX7 hown hK hP 0 rfl rfl 59 (by decide) w_0 rfl rfl dX7_undo_35 ?_
    refine k_ci (wc := [(h, .inr (7, oM r (upd i 59 y_27) j))]) (wr := [((r 48), .inl (cI, 6, .inl f48)), ((r 49), .inl (cI, 22, .inl f49)), ((r 50), .inl (cI, 22, .inl f50)), ((r 51), .inl (cI, 22, .inl f51)), ((r 52), .inl (cI, 22, .inl f52)), ((r 53), .inl (cI, 22, .inl f53)), ((r 54), .inl (cI, 1100, .inl f54)), ((r 55), .inl (cI, 1100, .inl f55)), ((r 56), .inl (cI, 1100, .inl f56)), ((r 57), .inl (cI, 1100, .inl f57))]) (fun hPc hDc hFc => va_runV (As := [.int y_27]) (rest := [.int 0, .ref h]) ⟨hx, hb, hml, hown, hts⟩ (s_X7_ring_v3 l dC dI cI cJ cZ cM h r (upd i 59 y_27) j y_27 (iR_w f_27_3 (by decide +kernel)) (mR_upd 59 hI (show iR _ (loI 59) (hiI 59) from (iR_w f_27_3 (by decide +kernel)))) H.size) (cwV 1 hts gX7_undo_X7_ring rfl rfl rfl (by decide +kernel) ⟨(Nat.le_of_ble_eq_true rfl), (Nat.le_of_ble_eq_true rfl)⟩) (k_pV hPc hDc hK hN hC hS hFc hP (q0 := 0) (ci := 7) rfl rfl) rfl rfl hl.1 rfl (lv_room (Nat.le_of_ble_eq_true rfl)) dX7_undo_38 ⟨(Nat.le_of_ble_eq_true rfl), (Nat.le_of_ble_eq_true rfl)⟩) hP hD hS hA [0] [1, 2, 3, 4, 5, 6, 7, 8, 9, 10] rfl rfl rfl rfl (by decide) (fun _ => rfl) 0 0 rfl rfl (fun r_38 u_38 H locs hw hP hD hS => ?_)
    have g_38_0 := hw
    have hP : va_P (dC, dI) vwCl [((r 48), .inl (cI, 6, .inl f48)), ((r 49), .inl (cI, 22, .inl f49)), ((r 50), .inl (cI, 22, .inl f50)), ((r 51), .inl (cI, 22, .inl f51)), ((r 52), .inl (cI, 22, .inl f52)), ((r 53), .inl (cI, 22, .inl f53)), ((r 54), .inl (cI, 1100, .inl f54)), ((r 55), .inl (cI, 1100, .inl f55)), ((r 56), .inl (cI, 1100, .inl f56)), ((r 57), .inl (cI, 1100, .inl f57)), (h, .inr (7, oM r (upd i 59 y_27) j))] H := hP
    have hD : va_D A [((r 48), .inl (cI, 6, .inl f48)), ((r 49), .inl (cI, 22, .inl f49)), ((r 50), .inl (cI, 22, .inl f50)), ((r 51), .inl (cI, 22, .inl f51)), ((r 52), .inl (cI, 22, .inl f52)), ((r 53), .inl (cI, 22, .inl f53)), ((r 54), .inl (cI, 1100, .inl f54)), ((r 55), .inl (cI, 1100, .inl f55)), ((r 56), .inl (cI, 1100, .inl f56)), ((r 57), .inl (cI, 1100, .inl f57)), (h, .inr (7, oM r (upd i 59 y_27) j))] := hD
    refine k_cv (wc := [(h, .inr (7, oM r (upd i 59 y_27) j)), ((r 49), .inl (cI, 22, .inl f49)), ((r 50), .inl (cI, 22, .inl f50)), ((r 51), .inl (cI, 22, .inl f51)), ((r 52), .inl (cI, 22, .inl f52)), ((r 53), .inl (cI, 22, .inl f53)), ((r 54), .inl (cI, 1100, .inl f54)), ((r 55), .inl (cI, 1100, .inl f55)), ((r 56), .inl (cI, 1100, .inl f56)), ((r 57), .inl (cI, 1100, .inl f57))]) (wr := [((r 48), .inl (cI, 6, .inl f48))]) (fun hPc hDc hFc => va_runV (As := [.int 0, .int r_38]) (rest := []) ⟨hx, hb, hml, hown, hts⟩ (s_X7_copies_v3 l dC dI cI cJ cZ cM h r (upd i 59 y_27) j 0 r_38 f49 f50 f51 f52 f53 f54 f55 f56 f57 (iR_c (n := 0) (a := 0) (b := 21) (by decide +kernel) (by decide +kernel)) (iR_w g_38_0 (by decide +kernel)) (mR_upd 59 hI (show iR _ (loI 59) (hiI 59) from (iR_w f_27_3 (by decide +kernel)))) hf49 hf50 hf53 H.size) (cwV 2 hts gX7_undo_X7_copies rfl rfl rfl (by decide +kernel) ⟨(Nat.le_of_ble_eq_true rfl), (Nat.le_of_ble_eq_true rfl)⟩) (k_pV hPc hDc hK hN hC hS hFc hP (q0 := 10) (ci := 7) rfl rfl) rfl rfl hl.1 rfl (lv_room (Nat.le_of_ble_eq_true rfl)) dX7_undo_41 ⟨(Nat.le_of_ble_eq_true rfl), (Nat.le_of_ble_eq_true rfl)⟩) hP hD hS hA [10, 1, 2, 3, 4, 5, 6, 7, 8, 9] [0] rfl rfl rfl rfl (by decide) (fun _ => rfl) 0 0 rfl rfl (fun u_41 H locs hw hP hD hS => ?_)
    have hP : va_P (dC, dI) vwCl [((r 48), .inl (cI, 6, .inl f48)), (h, .inr (7, oM r (upd i 59 y_27) j)), ((r 49), .inl (cI, 22, .inl (upd f49 0 (f49 r_38.toNatClampNeg)))), ((r 50), .inl (cI, 22, .inl (upd f50 0 (f50 r_38.toNatClampNeg)))), ((r 51), .inl (cI, 22, .inl (upd f51 0 (f51 r_38.toNatClampNeg)))), ((r 52), .inl (cI, 22, .inl (upd f52 0 (f52 r_38.toNatClampNeg)))), ((r 53), .inl (cI, 22, .inl (upd f53 0 (f53 r_38.toNatClampNeg)))), ((r 54), .inl (cI, 1100, .inl (u_41.2.2.1 0))), ((r 55), .inl (cI, 1100, .inl (u_41.2.2.1 1))), ((r 56), .inl (cI, 1100, .inl (u_41.2.2.1 2))), ((r 57), .inl (cI, 1100, .inl (u_41.2.2.1 3)))] H := hP
    have hD : va_D A [((r 48), .inl (cI, 6, .inl f48)), (h, .inr (7, oM r (upd i 59 y_27) j)), ((r 49), .inl (cI, 22, .inl (upd f49 0 (f49 r_38.toNatClampNeg)))), ((r 50), .inl (cI, 22, .inl (upd f50 0 (f50 r_38.toNatClampNeg)))), ((r 51), .inl (cI, 22, .inl (upd f51 0 (f51 r_38.toNatClampNeg)))), ((r 52), .inl (cI, 22, .inl (upd f52 0 (f52 r_38.toNatClampNeg)))), ((r 53), .inl (cI, 22, .inl (upd f53 0 (f53 r_38.toNatClampNeg)))), ((r 54), .inl (cI, 1100, .inl (u_41.2.2.1 0))), ((r 55), .inl (cI, 1100, .inl (u_41.2.2.1 1))), ((r 56), .inl (cI, 1100, .inl (u_41.2.2.1 2))), ((r 57), .inl (cI, 1100, .inl (u_41.2.2.1 3)))] := hD
    refine lv_iconst (v := 1) hx hb dX7_undo_44 (by decide +kernel) ?_
    exact k_ri B hP hD hS dX7_undo_45 ((fun k9 => match k9 with | 0 => y_27 | _ => 0), (fun _ => 0), (fun k9 => match k9 with | 0 => f48 | 1 => (upd f49 0 (f49 r_38.toNatClampNeg)) | 2 => (upd f50 0 (f50 r_38.toNatClampNeg)) | 3 => (upd f51 0 (f51 r_38.toNatClampNeg)) | 4 => (upd f52 0 (f52 r_38.toNatClampNeg)) | 5 => (upd f53 0 (f53 r_38.toNatClampNeg)) | 6 => (u_41.2.2.1 0) | 7 => (u_41.2.2.1 1) | 8 => (u_41.2.2.1 2) | 9 => (u_41.2.2.1 3) | _ => (fun _ => 0)), (fun _ => (fun _ => 0)), (fun _ => 0)) [1, 0, 2, 3, 4, 5, 6, 7, 8, 9, 10] rfl rfl rfl (Nat.le_of_ble_eq_true rfl) (Nat.le_of_ble_eq_true rfl) ⟨(show iR 1 0 1 from (iR_c (n := 1) (a := 0) (b := 1) (by decide +kernel) (by decide +kernel))), (show iR y_27 0 19 from f_27_3), (show aR (upd f49 0 (f49 r_38.toNatClampNeg)) 0 1023 from (aR_upd _ hf49 (show iR (f49 r_38.toNatClampNeg) 0 1023 from hf49 _))), (show aR (upd f50 0 (f50 r_38.toNatClampNeg)) 0 999 from (aR_upd _ hf50 (show iR (f50 r_38.toNatClampNeg) 0 999 from hf50 _))), (show aR (upd f53 0 (f53 r_38.toNatClampNeg)) 0 50 from (aR_upd _ hf53 (show iR (f53 r_38.toNatClampNeg) 0 50 from hf53 _)))⟩
  · have c_4 : (i 59) = 0 := c_4
    have f_7_2 : iR (i 59) 0 0 := iR_eqL c_4 f_1_1 (iR_c (n := 0) (a := 0) (b := 0) (by decide +kernel) (by decide +kernel)) (by decide +kernel)
    refine lv_aload_n hx hb dX7_undo_7 rfl (lv_at hl 0 rfl) ?_
    refine lv_iconst (v := 4) hx hb dX7_undo_8 (by decide +kernel) ?_
    refine k_ci (wc := [(h, .inr (7, oM r i j)), ((r 48), .inl (cI, 6, .inl f48))]) (wr := [((r 49), .inl (cI, 22, .inl f49)), ((r 50), .inl (cI, 22, .inl f50)), ((r 51), .inl (cI, 22, .inl f51)), ((r 52), .inl (cI, 22, .inl f52)), ((r 53), .inl (cI, 22, .inl f53)), ((r 54), .inl (cI, 1100, .inl f54)), ((r 55), .inl (cI, 1100, .inl f55)), ((r 56), .inl (cI, 1100, .inl f56)), ((r 57), .inl (cI, 1100, .inl f57))]) (fun hPc hDc hFc => va_runV (As := [.int 4]) (rest := []) ⟨hx, hb, hml, hown, hts⟩ (s_X7_refuses_v4 l dC dI cI cJ cZ cM h r i j 4 f48 (iR_c (n := 4) (a := 0) (b := 5) (by decide +kernel) (by decide +kernel)) hI H.size) (cwV 1 hts gX7_undo_X7_refuses rfl rfl rfl (by decide +kernel) ⟨(Nat.le_of_ble_eq_true rfl), (Nat.le_of_ble_eq_true rfl)⟩) (k_pV hPc hDc hK hN hC hS hFc hP (q0 := 0) (ci := 7) rfl rfl) rfl rfl hl.1 rfl (lv_room (Nat.le_of_ble_eq_true rfl)) dX7_undo_9 ⟨(Nat.le_of_ble_eq_true rfl), (Nat.le_of_ble_eq_true rfl)⟩) hP hD hS hA [0, 1] [2, 3, 4, 5, 6, 7, 8, 9, 10] rfl rfl rfl rfl (by decide) (fun _ => rfl) 0 0 rfl rfl (fun r_9 u_9 H locs hw hP hD hS => ?_)
    have g_9_0 := hw
    obtain rfl : r_9 = (-1) := g_9_0
    have hP : va_P (dC, dI) vwCl [((r 49), .inl (cI, 22, .inl f49)), ((r 50), .inl (cI, 22, .inl f50)), ((r 51), .inl (cI, 22, .inl f51)), ((r 52), .inl (cI, 22, .inl f52)), ((r 53), .inl (cI, 22, .inl f53)), ((r 54), .inl (cI, 1100, .inl f54)), ((r 55), .inl (cI, 1100, .inl f55)), ((r 56), .inl (cI, 1100, .inl f56)), ((r 57), .inl (cI, 1100, .inl f57)), (h, .inr (7, oM r i j)), ((r 48), .inl (cI, 6, .inl (u_9.2.2.1 0)))] H := hP
    have hD : va_D A [((r 49), .inl (cI, 22, .inl f49)), ((r 50), .inl (cI, 22, .inl f50)), ((r 51), .inl (cI, 22, .inl f51)), ((r 52), .inl (cI, 22, .inl f52)), ((r 53), .inl (cI, 22, .inl f53)), ((r 54), .inl (cI, 1100, .inl f54)), ((r 55), .inl (cI, 1100, .inl f55)), ((r 56), .inl (cI, 1100, .inl f56)), ((r 57), .inl (cI, 1100, .inl f57)), (h, .inr (7, oM r i j)), ((r 48), .inl (cI, 6, .inl (u_9.2.2.1 0)))] := hD
    refine lv_if_lt (tgt := 19) hx hb dX7_undo_12 (by decide) (fun _ => ?_) (fun q9 => absurd q9 (by decide +kernel))
    refine lv_iconst (v := 0) hx hb dX7_undo_19 (by decide +kernel) ?_
    exact k_ri B hP hD hS dX7_undo_20 ((fun k9 => match k9 with | 0 => (i 59) | _ => 0), (fun _ => 0), (fun k9 => match k9 with | 0 => (u_9.2.2.1 0) | 1 => f49 | 2 => f50 | 3 => f51 | 4 => f52 | 5 => f53 | 6 => f54 | 7 => f55 | 8 => f56 | 9 => f57 | _ => (fun _ => 0)), (fun _ => (fun _ => 0)), (fun _ => 0)) [9, 10, 0, 1, 2, 3, 4, 5, 6, 7, 8] rfl rfl rfl (Nat.le_of_ble_eq_true rfl) (Nat.le_of_ble_eq_true rfl) ⟨(show iR 0 0 1 from (iR_c (n := 0) (a := 0) (b := 1) (by decide +kernel) (by decide +kernel))), (show iR (i 59) 0 19 from (iR_w f_7_2 (by decide +kernel))), (show aR f49 0 1023 from hf49), (show aR f50 0 999 from hf50), (show aR f53 0 50 from hf53)⟩
