set_option maxHeartbeats 8000000 in
set_option maxRecDepth 100000 in
theorem s_X7_asksLayer_v0 (l : Launch) (dC : Nat → ClassId) (dI : Nat → Nat → Nat) (cI cJ cZ cM : ClassId) (h : Nat) (r : Nat → Nat) (i : Nat → Int32) (j : Nat → Int64) (x1 : Int32) (f49 : Nat → Int32) (f50 : Nat → Int32) (f51 : Nat → Int32) (f52 : Nat → Int32) (hx1 : iR x1 0 21) (hI : mR i) (hf49 : aR f49 0 1023) (hf50 : aR f50 0 999) : k_Mv l yX7_asksLayer wsX7_asksLayer ({ frames := 2, cells := 0, slots := 0, locals := 64 }) (dC, dI) vwCl (tyy cI cJ cZ cM) [(h, .inr (7, oM r i j)), ((r 49), .inl (cI, 22, .inl f49)), ((r 50), .inl (cI, 22, .inl f50)), ((r 51), .inl (cI, 22, .inl f51)), ((r 52), .inl (cI, 22, .inl f52))] [.ref h, .int x1] 0 0 (fun (u9 : Unit) => [(h, .inr (7, oM r (upd (upd (upd (upd i 62 (f49 x1.toNatClampNeg)) 63 (f50 x1.toNatClampNeg)) 64 (f51 x1.toNatClampNeg)) 65 (f52 x1.toNatClampNeg)) j)), ((r 49), .inl (cI, 22, .inl f49)), ((r 50), .inl (cI, 22, .inl f50)), ((r 51), .inl (cI, 22, .inl f51)), ((r 52), .inl (cI, 22, .inl f52))]) (fun (u9 : Unit) => True) := by
  refine fun sz => k_enter (cc := cX7_asksLayer) (maxL := 2) (ret := none) (Qc := fun A => va_Qv (fun (u9 : Unit) => True) (fun u => k_B (dC, dI) vwCl (tyy cI cJ cZ cM) A ((fun (u9 : Unit) => [(h, .inr (7, oM r (upd (upd (upd (upd i 62 (f49 x1.toNatClampNeg)) 63 (f50 x1.toNatClampNeg)) 64 (f51 x1.toNatClampNeg)) 65 (f52 x1.toNatClampNeg)) j)), ((r 49), .inl (cI, 22, .inl f49)), ((r 50), .inl (cI, 22, .inl f50)), ((r 51), .inl (cI, 22, .inl f51)), ((r 52), .inl (cI, 22, .inl f52))]) u)) A) sz (by decide +kernel) rfl (Nat.le_of_ble_eq_true rfl) (fun p e s m args below meth c A ls H locs B hP hD hS hl => ?_)
  obtain ⟨hx, hb, hml, hown, hts, hr, hlk, hnm, hK, hA, hN, hC⟩ := id B
  have hown : s.vm.findClass RX7 = some m.cls := hown
  have hl : lv_has ls 2 [(0, .ref h), (1, .int x1)] := hl
  have w_0 : (Cond.fieldLink RX7 162 "WishSeaModel" "hadOf" "[I").before args s = true := hts _ (List.mem_of_getElem? (i := 1) rfl)
  have w_1 : (Cond.fieldLink RX7 165 "WishSeaModel" "seaOf" "[I").before args s = true := hts _ (List.mem_of_getElem? (i := 2) rfl)
  have w_2 : (Cond.fieldLink RX7 168 "WishSeaModel" "saidOf" "[I").before args s = true := hts _ (List.mem_of_getElem? (i := 3) rfl)
  have w_3 : (Cond.fieldLink RX7 171 "WishSeaModel" "dayOf" "[I").before args s = true := hts _ (List.mem_of_getElem? (i := 4) rfl)
  have hinX7 : ∀ w ∈ u_ws RX7 TX7 92, w ∈ wsX7_asksLayer := fun _ h => List.mem_cons_of_mem _ (List.mem_append_right _ h)
  refine lv_aload_n hx hb dX7_asksLayer_0 rfl (lv_at hl 0 rfl) ?_
  refine lv_aload_n hx hb dX7_asksLayer_1 rfl (lv_at hl 0 rfl) ?_
  refine k_get (D := (dC, dI)) (ci := 7) (v := .ref (r 49)) (C := RX7) (T := TX7) (N := 92) hx hb hts hinX7 hown hK hP 0 rfl rfl 49 (by decide) w_0 rfl rfl dX7_asksLayer_2 ?_
  refine lv_iload_n hx hb dX7_asksLayer_5 rfl (lv_at hl 1 rfl) ?_
  refine va_iald hx hb hK hP 1 0 rfl rfl (iR_vp hx1 (by decide +kernel)) dX7_asksLayer_6 ?_
  have f_6_1 : iR (f49 x1.toNatClampNeg) 0 1023 := hf49 _
  refine lv_aload_n hx hb dX7_asksLayer_7 rfl (lv_at hl 0 rfl) ?_
  refine k_get (D := (dC, dI)) (ci := 7) (v := .ref (r 50)) (C := RX7) (T := TX7) (N := 92) hx hb hts hinX7 hown hK hP 0 rfl rfl 50 (by decide) w_1 rfl rfl dX7_asksLayer_8 ?_
  refine lv_iload_n hx hb dX7_asksLayer_11 rfl (lv_at hl 1 rfl) ?_
  refine va_iald hx hb hK hP 2 0 rfl rfl (iR_vp hx1 (by decide +kernel)) dX7_asksLayer_12 ?_
  have f_12_2 : iR (f50 x1.toNatClampNeg) 0 999 := hf50 _
  refine lv_aload_n hx hb dX7_asksLayer_13 rfl (lv_at hl 0 rfl) ?_
  refine k_get (D := (dC, dI)) (ci := 7) (v := .ref (r 51)) (C := RX7) (T := TX7) (N := 92) hx hb hts hinX7 hown hK hP 0 rfl rfl 51 (by decide) w_2 rfl rfl dX7_asksLayer_14 ?_
  refine lv_iload_n hx hb dX7_asksLayer_17 rfl (lv_at hl 1 rfl) ?_
  refine va_iald hx hb hK hP 3 0 rfl rfl (iR_vp hx1 (by decide +kernel)) dX7_asksLayer_18 ?_
  refine lv_aload_n hx hb dX7_asksLayer_19 rfl (lv_at hl 0 rfl) ?_
  refine k_get (D := (dC, dI)) (ci := 7) (v := .ref (r 52)) (C := RX7) (T := TX7) (N := 92) hx hb hts hinX7 hown hK hP 0 rfl rfl 52 (by decide) w_3 rfl rfl dX7_asksLayer_20 ?_
  refine lv_iload_n hx hb dX7_asksLayer_23 rfl (lv_at hl 1 rfl) ?_
  refine va_iald hx hb hK hP 4 0 rfl rfl (iR_vp hx1 (by decide +kernel)) dX7_asksLayer_24 ?_
  refine k_cv (wc := [(h, .inr (7, oM r i j))]) (wr := [((r 49), .inl (cI, 22, .inl f49)), ((r 50), .inl (cI, 22, .inl f50)), ((r 51), .inl (cI, 22, .inl f51)), ((r 52), .inl (cI, 22, .inl f52))]) (fun hPc hDc hFc => va_runV (As := [.int (f49 x1.toNatClampNeg), .int (f50 x1.toNatClampNeg), .int (f51 x1.toNatClampNeg), .int (f52 x1.toNatClampNeg)]) (rest := []) ⟨hx, hb, hml, hown, hts⟩ (s_X7_asks_v0 l dC dI cI cJ cZ cM h r i j (f49 x1.toNatClampNeg) (f50 x1.toNatClampNeg) (f51 x1.toNatClampNeg) (f52 x1.toNatClampNeg) hI H.size) (cwV 4 hts gX7_asksLayer_X7_asks rfl rfl rfl (by decide +kernel) ⟨(Nat.le_of_ble_eq_true rfl), (Nat.le_of_ble_eq_true rfl)⟩) (k_pV hPc hDc hK hN hC hS hFc hP (q0 := 0) (ci := 7) rfl rfl) rfl rfl hl.1 rfl (lv_room (Nat.le_of_ble_eq_true rfl)) dX7_asksLayer_25 ⟨(Nat.le_of_ble_eq_true rfl), (Nat.le_of_ble_eq_true rfl)⟩) hP hD hS hA [0] [1, 2, 3, 4] rfl rfl rfl rfl (by decide) (fun _ => rfl) 0 0 rfl rfl (fun u_25 H locs hw hP hD hS => ?_)
  have hP : va_P (dC, dI) vwCl [((r 49), .inl (cI, 22, .inl f49)), ((r 50), .inl (cI, 22, .inl f50)), ((r 51), .inl (cI, 22, .inl f51)), ((r 52), .inl (cI, 22, .inl f52)), (h, .inr (7, oM r (upd (upd (upd (upd i 62 (f49 x1.toNatClampNeg)) 63 (f50 x1.toNatClampNeg)) 64 (f51 x1.toNatClampNeg)) 65 (f52 x1.toNatClampNeg)) j))] H := hP
  have hD : va_D A [((r 49), .inl (cI, 22, .inl f49)), ((r 50), .inl (cI, 22, .inl f50)), ((r 51), .inl (cI, 22, .inl f51)), ((r 52), .inl (cI, 22, .inl f52)), (h, .inr (7, oM r (upd (upd (upd (upd i 62 (f49 x1.toNatClampNeg)) 63 (f50 x1.toNatClampNeg)) 64 (f51 x1.toNatClampNeg)) 65 (f52 x1.toNatClampNeg)) j))] := hD
  exact k_rv B hP hD hS dX7_asksLayer_28 () [4, 0, 1, 2, 3] rfl rfl (Nat.le_of_ble_eq_true rfl) (Nat.le_of_ble_eq_true rfl) trivial
set_option maxHeartbeats 8000000 in
set_option maxRecDepth 100000 in
theorem s_X7_holds_v0 (l : Launch) (dC : Nat → ClassId) (dI : Nat → Nat → Nat) (cI cJ cZ cM : ClassId) (x0 : Int32) (x1 : Int32)  : k_Mi l yX7_holds wsX7_holds ({ frames := 1, cells := 0, slots := 0, locals := 40 }) (dC, dI) vwCl (tyy cI cJ cZ cM) [] [.int x0, .int x1] 0 0 (fun (u9 : Unit) => []) (fun (r9 : Int32) (u9 : Unit) => (iR r9 0 1)) := by
  refine fun sz => k_enter (cc := cX7_holds) (maxL := 2) (ret := some (.boolean)) (Qc := fun A => va_Qi (fun (r9 : Int32) (u9 : Unit) => (iR r9 0 1)) (fun u => k_B (dC, dI) vwCl (tyy cI cJ cZ cM) A ((fun (u9 : Unit) => []) u)) A) sz (by decide +kernel) rfl (Nat.le_of_ble_eq_true rfl) (fun p e s m args below meth c A ls H locs B hP hD hS hl => ?_)
  obtain ⟨hx, hb, hml, hown, hts, hr, hlk, hnm, hK, hA, hN, hC⟩ := id B
  have hown : s.vm.findClass RX7 = some m.cls := hown
  have hl : lv_has ls 2 [(0, .int x0), (1, .int x1)] := hl
  refine lv_iload_n hx hb dX7_holds_0 rfl (lv_at hl 0 rfl) ?_
  refine lv_iload_n hx hb dX7_holds_1 rfl (lv_at hl 1 rfl) ?_
  refine lv_ishr hx hb dX7_holds_2 ?_
  refine lv_topi (fun y_2 ey_2 => ?_)
  refine lv_iconst (v := 1) hx hb dX7_holds_3 (by decide +kernel) ?_
  refine lv_iand hx hb dX7_holds_4 ?_
  refine lv_topi (fun y_4 ey_4 => ?_)
  have f_4_1 : iR y_4 0 1 := iR_andR ey_4 (iR_c (n := 1) (a := 1) (b := 1) (by decide +kernel) (by decide +kernel)) (by decide +kernel)
  refine lv_iconst (v := 1) hx hb dX7_holds_5 (by decide +kernel) ?_
  refine lv_icmp_ne (tgt := 13) hx hb dX7_holds_6 (by decide) (fun c_6 => ?_) (fun c_6 => ?_)
  · have c_6 : ¬ y_4 = 1 := c_6
    have f_13_2 : iR y_4 0 0 := iR_neL c_6 f_4_1 (iR_c (n := 1) (a := 1) (b := 1) (by decide +kernel) (by decide +kernel)) (by decide +kernel)
    refine lv_iconst (v := 0) hx hb dX7_holds_13 (by decide +kernel) ?_
    exact k_ri B hP hD hS dX7_holds_14 () [] rfl rfl rfl (Nat.le_of_ble_eq_true rfl) (Nat.le_of_ble_eq_true rfl) (show iR 0 0 1 from (iR_c (n := 0) (a := 0) (b := 1) (by decide +kernel) (by decide +kernel)))
  · have c_6 : y_4 = 1 := c_6
    have f_9_2 : iR y_4 1 1 := iR_eqL c_6 f_4_1 (iR_c (n := 1) (a := 1) (b := 1) (by decide +kernel) (by decide +kernel)) (by decide +kernel)
    refine lv_iconst (v := 1) hx hb dX7_holds_9 (by decide +kernel) ?_
    refine lv_goto (tgt := 14) hx hb dX7_holds_10 (by decide) ?_
    exact k_ri B hP hD hS dX7_holds_14 () [] rfl rfl rfl (Nat.le_of_ble_eq_true rfl) (Nat.le_of_ble_eq_true rfl) (show iR 1 0 1 from (iR_c (n := 1) (a := 0) (b := 1) (by decide +kernel) (by decide +kernel)))
set_option maxHeartbeats 8000000 in
set_option maxRecDepth 100000 in
theorem s_X7_worthOf_v0 (l : Launch) (dC : Nat → ClassId) (dI : Nat → Nat → Nat) (cI cJ cZ cM : ClassId) (h : Nat) (r : Nat → Nat) (i : Nat → Int32) (j : Nat → Int64) (x1 : Int32) (f14 : Nat → Int32) (f15 : Nat → Int32) (hI : mR i) (hf14 : aR f14 0 10) : k_Mi l yX7_worthOf wsX7_worthOf ({ frames := 2, cells := 0, slots := 0, locals := 61 }) (dC, dI) vwCl (tyy cI cJ cZ cM) [(h, .inr (7, oM r i j)), ((r 14), .inl (cI, 2, .inl f14)), ((r 15), .inl (cI, 20, .inl f15))] [.ref h, .int x1] 0 0 (fun (u9 : Unit) => [(h, .inr (7, oM r i j)), ((r 14), .inl (cI, 2, .inl f14)), ((r 15), .inl (cI, 20, .inl f15))]) (fun (r9 : Int32) (u9 : Unit) => True) := by
  refine fun sz => k_enter (cc := cX7_worthOf) (maxL := 4) (ret := some (.int)) (Qc := fun A => va_Qi (fun (r9 : Int32) (u9 : Unit) => True) (fun u => k_B (dC, dI) vwCl (tyy cI cJ cZ cM) A ((fun (u9 : Unit) => [(h, .inr (7, oM r i j)), ((r 14), .inl (cI, 2, .inl f14)), ((r 15), .inl (cI, 20, .inl f15))]) u)) A) sz (by decide +kernel) rfl (Nat.le_of_ble_eq_true rfl) (fun p e s m args below meth c A ls H locs B hP hD hS hl => ?_)
  obtain ⟨hx, hb, hml, hown, hts, hr, hlk, hnm, hK, hA, hN, hC⟩ := id B
  have hown : s.vm.findClass RX7 = some m.cls := hown
  have hl : lv_has ls 4 [(0, .ref h), (1, .int x1)] := hl
  have w_0 : (Cond.fieldLink RX7 54 "WishSeaModel" "things" "[I").before args s = true := hts _ (List.mem_of_getElem? (i := 1) rfl)
  have w_1 : (Cond.fieldLink RX7 51 "WishSeaModel" "bank" "I").before args s = true := hts _ (List.mem_of_getElem? (i := 2) rfl)
  have w_2 : (Cond.fieldLink RX7 57 "WishSeaModel" "thingWorth" "[I").before args s = true := hts _ (List.mem_of_getElem? (i := 3) rfl)
  have hinX7 : ∀ w ∈ u_ws RX7 TX7 92, w ∈ wsX7_worthOf := fun _ h => List.mem_cons_of_mem _ (List.mem_append_right _ h)
  refine lv_iconst (v := 0) hx hb dX7_worthOf_0 (by decide +kernel) ?_
  refine lv_istore_n (lv' := [(2, .int 0), (0, .ref h), (1, .int x1)]) hx hb dX7_worthOf_1 rfl hl (by decide) rfl (fun ls hl => ?_)
  refine lv_iconst (v := 0) hx hb dX7_worthOf_2 (by decide +kernel) ?_
  have J_4 : ∀ (n_4 : Nat) (j4_L2 : Int32) (j4_L3 : Int32) (hj4_L3 : iR j4_L3 0 10) (hm_4 : (10 - j4_L3.toInt).toNat < n_4) (H : Heap) (locs : List Loc) (ls : Array Slot), va_P (dC, dI) vwCl [(h, .inr (7, oM r i j)), ((r 14), .inl (cI, 2, .inl f14)), ((r 15), .inl (cI, 20, .inl f15))] H → va_D A [(h, .inr (7, oM r i j)), ((r 14), .inl (cI, 2, .inl f14)), ((r 15), .inl (cI, 20, .inl f15))] → va_S A s.heap H locs → lv_has ls 4 [(0, .ref h), (1, .int x1), (2, .int j4_L2), (3, .int j4_L3)] → W p l e ({ frames := 2, cells := 0, slots := 0, locals := 61 }) s m args below meth c H locs 0 0 (MQ below (va_Qi (fun (r9 : Int32) (u9 : Unit) => True) (fun u => k_B (dC, dI) vwCl (tyy cI cJ cZ cM) A ((fun (u9 : Unit) => [(h, .inr (7, oM r i j)), ((r 14), .inl (cI, 2, .inl f14)), ((r 15), .inl (cI, 20, .inl f15))]) u)) A) args s 0 0 A) (F0 m 4 ls []) := by
    intro n_4
    induction n_4 with
    | zero => intro j4_L2 j4_L3 hj4_L3 hm_4; exact absurd hm_4 (Nat.not_lt_zero _)
    | succ n_4 ih_4 =>
      intro j4_L2 j4_L3 hj4_L3 hm_4 H locs ls hP hD hS hl
      refine lv_iload_n hx hb dX7_worthOf_4 rfl (lv_at hl 3 rfl) ?_
      refine lv_aload_n hx hb dX7_worthOf_5 rfl (lv_at hl 0 rfl) ?_
      refine k_get (D := (dC, dI)) (ci := 7) (v := .ref (r 14)) (C := RX7) (T := TX7) (N := 92) hx hb hts hinX7 hown hK hP 0 rfl rfl 14 (by decide) w_0 rfl rfl dX7_worthOf_6 ?_
      refine lv_aload_n hx hb dX7_worthOf_9 rfl (lv_at hl 0 rfl) ?_
      have f_10_1 : iR (i 13) 0 1 := hI 13
      refine k_get (D := (dC, dI)) (ci := 7) (v := .int (i 13)) (C := RX7) (T := TX7) (N := 92) hx hb hts hinX7 hown hK hP 0 rfl rfl 13 (by decide) w_1 rfl rfl dX7_worthOf_10 ?_
      refine va_iald hx hb hK hP 1 0 rfl rfl (iR_vp f_10_1 (by decide +kernel)) dX7_worthOf_13 ?_
      have f_13_2 : iR (f14 (i 13).toNatClampNeg) 0 10 := hf14 _
      refine lv_icmp_ge (tgt := 52) hx hb dX7_worthOf_14 (by decide) (fun c_14 => ?_) (fun c_14 => ?_)
      · have c_14 : (f14 (i 13).toNatClampNeg) ≤ j4_L3 := c_14
        refine lv_iload_n hx hb dX7_worthOf_52 rfl (lv_at hl 2 rfl) ?_
        exact k_ri B hP hD hS dX7_worthOf_53 () [0, 1, 2] rfl rfl rfl (Nat.le_of_ble_eq_true rfl) (Nat.le_of_ble_eq_true rfl) trivial
      · have c_14 : j4_L3 < (f14 (i 13).toNatClampNeg) := i_nle c_14
        have f_17_3 : iR j4_L3 0 9 := iR_ltL c_14 hj4_L3 f_13_2 (by decide +kernel)
        have f_17_4 : iR (f14 (i 13).toNatClampNeg) 1 10 := iR_ltR c_14 hj4_L3 f_13_2 (by decide +kernel)
        refine lv_iload_n hx hb dX7_worthOf_17 rfl (lv_at hl 2 rfl) ?_
        refine lv_iload_n hx hb dX7_worthOf_18 rfl (lv_at hl 1 rfl) ?_
        refine lv_iload_n hx hb dX7_worthOf_19 rfl (lv_at hl 3 rfl) ?_
        refine k_ci (wc := []) (wr := [(h, .inr (7, oM r i j)), ((r 14), .inl (cI, 2, .inl f14)), ((r 15), .inl (cI, 20, .inl f15))]) (fun hPc hDc hFc => va_runS (As := [.int x1, .int j4_L3]) (rest := [.int j4_L2]) ⟨hx, hb, hml, hown, hts⟩ (s_X7_holds_v0 l dC dI cI cJ cZ cM x1 j4_L3 H.size) (va_cwS 2 hts gX7_worthOf_X7_holds rfl rfl rfl (by decide +kernel) ⟨(Nat.le_of_ble_eq_true rfl), (Nat.le_of_ble_eq_true rfl)⟩) (k_pS hPc hDc hK hN hC hS hFc) rfl rfl hl.1 rfl (lv_room (Nat.le_of_ble_eq_true rfl)) dX7_worthOf_20 ⟨(Nat.le_of_ble_eq_true rfl), (Nat.le_of_ble_eq_true rfl)⟩) hP hD hS hA [] [0, 1, 2] rfl rfl rfl rfl (by decide) (fun _ => rfl) 0 0 rfl rfl (fun r_20 u_20 H locs hw hP hD hS => ?_)
        have g_20_0 := hw
        have hP : va_P (dC, dI) vwCl [(h, .inr (7, oM r i j)), ((r 14), .inl (cI, 2, .inl f14)), ((r 15), .inl (cI, 20, .inl f15))] H := hP
        have hD : va_D A [(h, .inr (7, oM r i j)), ((r 14), .inl (cI, 2, .inl f14)), ((r 15), .inl (cI, 20, .inl f15))] := hD
        have J_44 : ∀ (j44_S0 : Int32)  (H : Heap) (locs : List Loc) (ls : Array Slot), va_P (dC, dI) vwCl [(h, .inr (7, oM r i j)), ((r 14), .inl (cI, 2, .inl f14)), ((r 15), .inl (cI, 20, .inl f15))] H → va_D A [(h, .inr (7, oM r i j)), ((r 14), .inl (cI, 2, .inl f14)), ((r 15), .inl (cI, 20, .inl f15))] → va_S A s.heap H locs → lv_has ls 4 [(0, .ref h), (1, .int x1), (3, .int j4_L3)] → W p l e ({ frames := 2, cells := 0, slots := 0, locals := 61 }) s m args below meth c H locs 0 0 (MQ below (va_Qi (fun (r9 : Int32) (u9 : Unit) => True) (fun u => k_B (dC, dI) vwCl (tyy cI cJ cZ cM) A ((fun (u9 : Unit) => [(h, .inr (7, oM r i j)), ((r 14), .inl (cI, 2, .inl f14)), ((r 15), .inl (cI, 20, .inl f15))]) u)) A) args s 0 0 A) (F0 m 44 ls [.int j44_S0, .int j4_L2]) := by
          intro j44_S0  H locs ls hP hD hS hl
          refine lv_iadd hx hb dX7_worthOf_44 ?_
          refine lv_topi (fun y_44 ey_44 => ?_)
          refine lv_istore_n (lv' := [(2, .int y_44), (0, .ref h), (1, .int x1), (3, .int j4_L3)]) hx hb dX7_worthOf_45 rfl hl (by decide) rfl (fun ls hl => ?_)
          obtain ⟨y_46, ey_46⟩ : ∃ y : Int32, y = j4_L3 + 1 := ⟨_, rfl⟩
          refine lv_iinc (v := y_46) (lv' := [(3, .int y_46), (2, .int y_44), (0, .ref h), (1, .int x1)]) hx hb dX7_worthOf_46 hl (k := 3) rfl ey_46.symm (by decide) rfl (fun ls hl => ?_)
          have f_46_1 : iR y_46 1 10 := iR_add ey_46 f_17_3 (iR_c (n := 1) (a := 1) (b := 1) (by decide +kernel) (by decide +kernel)) (by decide +kernel)
          refine lv_goto (tgt := 4) hx hb dX7_worthOf_49 (by decide) ?_
          exact ih_4 y_44 y_46 (iR_w f_46_1 (by decide +kernel)) (m_up (B := 10) hm_4 ey_46 f_17_3 (by decide +kernel)) H locs ls hP hD hS (lv_sub hl [2, 3, 1, 0] rfl)
        refine lv_if_eq (tgt := 43) hx hb dX7_worthOf_23 (by decide) (fun c_23 => ?_) (fun c_23 => ?_)
        · have c_23 : r_20 = 0 := c_23
          have f_43_5 : iR r_20 0 0 := iR_eqL c_23 g_20_0 (iR_c (n := 0) (a := 0) (b := 0) (by decide +kernel) (by decide +kernel)) (by decide +kernel)
          refine lv_iconst (v := 0) hx hb dX7_worthOf_43 (by decide +kernel) ?_
          exact J_44 0  H locs ls hP hD hS (lv_sub hl [0, 1, 3] rfl)
        · have c_23 : ¬ r_20 = 0 := c_23
          have f_26_5 : iR r_20 1 1 := iR_neL c_23 g_20_0 (iR_c (n := 0) (a := 0) (b := 0) (by decide +kernel) (by decide +kernel)) (by decide +kernel)
          refine lv_aload_n hx hb dX7_worthOf_26 rfl (lv_at hl 0 rfl) ?_
          refine k_get (D := (dC, dI)) (ci := 7) (v := .ref (r 15)) (C := RX7) (T := TX7) (N := 92) hx hb hts hinX7 hown hK hP 0 rfl rfl 15 (by decide) w_2 rfl rfl dX7_worthOf_27 ?_
          refine lv_bipush (v := 10) hx hb dX7_worthOf_30 (by decide +kernel) ?_
          refine lv_aload_n hx hb dX7_worthOf_32 rfl (lv_at hl 0 rfl) ?_
          refine k_get (D := (dC, dI)) (ci := 7) (v := .int (i 13)) (C := RX7) (T := TX7) (N := 92) hx hb hts hinX7 hown hK hP 0 rfl rfl 13 (by decide) w_1 rfl rfl dX7_worthOf_33 ?_
          refine lv_imul hx hb dX7_worthOf_36 ?_
          refine lv_topi (fun y_36 ey_36 => ?_)
          have f_36_6 : iR y_36 0 10 := iR_mul ey_36 (iR_c (n := 10) (a := 10) (b := 10) (by decide +kernel) (by decide +kernel)) f_10_1 (by decide +kernel)
          refine lv_iload_n hx hb dX7_worthOf_37 rfl (lv_at hl 3 rfl) ?_
          refine lv_iadd hx hb dX7_worthOf_38 ?_
          refine lv_topi (fun y_38 ey_38 => ?_)
          have f_38_7 : iR y_38 0 19 := iR_add ey_38 f_36_6 f_17_3 (by decide +kernel)
          refine va_iald hx hb hK hP 2 0 rfl rfl (iR_vp f_38_7 (by decide +kernel)) dX7_worthOf_39 ?_
          refine lv_goto (tgt := 44) hx hb dX7_worthOf_40 (by decide) ?_
          exact J_44 (f15 y_38.toNatClampNeg)  H locs ls hP hD hS (lv_sub hl [0, 1, 3] rfl)
  refine lv_istore_n (lv' := [(3, .int 0), (2, .int 0), (0, .ref h), (1, .int x1)]) hx hb dX7_worthOf_3 rfl hl (by decide) rfl (fun ls hl => ?_)
  exact J_4 _ 0 0 (iR_c (n := 0) (a := 0) (b := 10) (by decide +kernel) (by decide +kernel)) (Nat.lt_succ_self _) H locs ls hP hD hS (lv_sub hl [2, 3, 1, 0] rfl)
set_option maxHeartbeats 8000000 in
set_option maxRecDepth 100000 in
theorem s_X7_letter_v0 (l : Launch) (dC : Nat → ClassId) (dI : Nat → Nat → Nat) (cI cJ cZ cM : ClassId) (h : Nat) (r : Nat → Nat) (i : Nat → Int32) (j : Nat → Int64) (x1 : Int32) (x2 : Int32) (x3 : Int32) (f14 : Nat → Int32) (f18 : Nat → Int32) (g34 : Nat → Int64) (g35 : Nat → Int64) (hI : mR i) (hf14 : aR f14 0 10) (hf18 : aR f18 0 12) : k_Mi l yX7_letter wsX7_letter ({ frames := 2, cells := 0, slots := 0, locals := 63 }) (dC, dI) vwCl (tyy cI cJ cZ cM) [(h, .inr (7, oM r i j)), ((r 14), .inl (cI, 2, .inl f14)), ((r 18), .inl (cI, 2, .inl f18)), ((r 34), .inl (cJ, 20, .inr (.inl g34))), ((r 35), .inl (cJ, 24, .inr (.inl g35)))] [.ref h, .int x1, .int x2, .int x3] 0 0 (fun (u9 : Unit) => [(h, .inr (7, oM r i j)), ((r 14), .inl (cI, 2, .inl f14)), ((r 18), .inl (cI, 2, .inl f18)), ((r 34), .inl (cJ, 20, .inr (.inl g34))), ((r 35), .inl (cJ, 24, .inr (.inl g35)))]) (fun (r9 : Int32) (u9 : Unit) => True) := by
  refine fun sz => k_enter (cc := cX7_letter) (maxL := 9) (ret := some (.int)) (Qc := fun A => va_Qi (fun (r9 : Int32) (u9 : Unit) => True) (fun u => k_B (dC, dI) vwCl (tyy cI cJ cZ cM) A ((fun (u9 : Unit) => [(h, .inr (7, oM r i j)), ((r 14), .inl (cI, 2, .inl f14)), ((r 18), .inl (cI, 2, .inl f18)), ((r 34), .inl (cJ, 20, .inr (.inl g34))), ((r 35), .inl (cJ, 24, .inr (.inl g35)))]) u)) A) sz (by decide +kernel) rfl (Nat.le_of_ble_eq_true rfl) (fun p e s m args below meth c A ls H locs B hP hD hS hl => ?_)
  obtain ⟨hx, hb, hml, hown, hts, hr, hlk, hnm, hK, hA, hN, hC⟩ := id B
  have hown : s.vm.findClass RX7 = some m.cls := hown
  have hl : lv_has ls 9 [(0, .ref h), (1, .int x1), (2, .int x2), (3, .int x3)] := hl
  have w_0 : (Cond.fieldLink RX7 51 "WishSeaModel" "bank" "I").before args s = true := hts _ (List.mem_of_getElem? (i := 1) rfl)
  have w_1 : (Cond.constantLong RX7 542 (255)).before args s = true := hts _ (List.mem_of_getElem? (i := 2) rfl)
  have hinX7 : ∀ w ∈ u_ws RX7 TX7 92, w ∈ wsX7_letter := fun _ h => List.mem_cons_of_mem _ (List.mem_append_right _ h)
  refine lv_iload_n hx hb dX7_letter_0 rfl (lv_at hl 1 rfl) ?_
  refine lv_iconst (v := 0) hx hb dX7_letter_1 (by decide +kernel) ?_
  refine lv_iconst (v := 1) hx hb dX7_letter_2 (by decide +kernel) ?_
  refine k_ci (wc := []) (wr := [(h, .inr (7, oM r i j)), ((r 14), .inl (cI, 2, .inl f14)), ((r 18), .inl (cI, 2, .inl f18)), ((r 34), .inl (cJ, 20, .inr (.inl g34))), ((r 35), .inl (cJ, 24, .inr (.inl g35)))]) (fun hPc hDc hFc => va_runS (As := [.int x1, .int 0, .int 1]) (rest := []) ⟨hx, hb, hml, hown, hts⟩ (s_X7_is_v0 l dC dI cI cJ cZ cM x1 0 1 H.size) (va_cwS 3 hts gX7_letter_X7_is rfl rfl rfl (by decide +kernel) ⟨(Nat.le_of_ble_eq_true rfl), (Nat.le_of_ble_eq_true rfl)⟩) (k_pS hPc hDc hK hN hC hS hFc) rfl rfl hl.1 rfl (lv_room (Nat.le_of_ble_eq_true rfl)) dX7_letter_3 ⟨(Nat.le_of_ble_eq_true rfl), (Nat.le_of_ble_eq_true rfl)⟩) hP hD hS hA [] [0, 1, 2, 3, 4] rfl rfl rfl rfl (by decide) (fun _ => rfl) 0 0 rfl rfl (fun r_3 u_3 H locs hw hP hD hS => ?_)
  obtain ⟨g_3_0, g_3_1⟩ := hw
  have hP : va_P (dC, dI) vwCl [(h, .inr (7, oM r i j)), ((r 14), .inl (cI, 2, .inl f14)), ((r 18), .inl (cI, 2, .inl f18)), ((r 34), .inl (cJ, 20, .inr (.inl g34))), ((r 35), .inl (cJ, 24, .inr (.inl g35)))] H := hP
  have hD : va_D A [(h, .inr (7, oM r i j)), ((r 14), .inl (cI, 2, .inl f14)), ((r 18), .inl (cI, 2, .inl f18)), ((r 34), .inl (cJ, 20, .inr (.inl g34))), ((r 35), .inl (cJ, 24, .inr (.inl g35)))] := hD
  have g_3_1 : (r_3 = 0) ∨ ((0 ≤ x1) ∧ (x1 ≤ 1)) := g_3_1
  have J_37 : ∀   (H : Heap) (locs : List Loc) (ls : Array Slot), va_P (dC, dI) vwCl [(h, .inr (7, oM r i j)), ((r 14), .inl (cI, 2, .inl f14)), ((r 18), .inl (cI, 2, .inl f18)), ((r 34), .inl (cJ, 20, .inr (.inl g34))), ((r 35), .inl (cJ, 24, .inr (.inl g35)))] H → va_D A [(h, .inr (7, oM r i j)), ((r 14), .inl (cI, 2, .inl f14)), ((r 18), .inl (cI, 2, .inl f18)), ((r 34), .inl (cJ, 20, .inr (.inl g34))), ((r 35), .inl (cJ, 24, .inr (.inl g35)))] → va_S A s.heap H locs → lv_has ls 9 [] → W p l e ({ frames := 2, cells := 0, slots := 0, locals := 63 }) s m args below meth c H locs 0 0 (MQ below (va_Qi (fun (r9 : Int32) (u9 : Unit) => True) (fun u => k_B (dC, dI) vwCl (tyy cI cJ cZ cM) A ((fun (u9 : Unit) => [(h, .inr (7, oM r i j)), ((r 14), .inl (cI, 2, .inl f14)), ((r 18), .inl (cI, 2, .inl f18)), ((r 34), .inl (cJ, 20, .inr (.inl g34))), ((r 35), .inl (cJ, 24, .inr (.inl g35)))]) u)) A) args s 0 0 A) (F0 m 37 ls []) := by
    intro   H locs ls hP hD hS hl
    refine lv_iconst (v := (-1)) hx hb dX7_letter_37 (by decide +kernel) ?_
    exact k_ri B hP hD hS dX7_letter_38 () [0, 1, 2, 3, 4] rfl rfl rfl (Nat.le_of_ble_eq_true rfl) (Nat.le_of_ble_eq_true rfl) trivial
  refine lv_if_eq (tgt := 37) hx hb dX7_letter_6 (by decide) (fun c_6 => ?_) (fun c_6 => ?_)
  · have c_6 : r_3 = 0 := c_6
    have f_37_1 : iR r_3 0 0 := iR_eqL c_6 g_3_0 (iR_c (n := 0) (a := 0) (b := 0) (by decide +kernel) (by decide +kernel)) (by decide +kernel)
    exact J_37   H locs ls hP hD hS (lv_sub hl [] rfl)
  · have c_6 : ¬ r_3 = 0 := c_6
    have f_9_1 : iR r_3 1 1 := iR_neL c_6 g_3_0 (iR_c (n := 0) (a := 0) (b := 0) (by decide +kernel) (by decide +kernel)) (by decide +kernel)
    obtain ⟨d_6_1_0, d_6_1_1⟩ := g_3_1.resolve_left c_6
    have f_9_2 : iR x1 0 2147483647 := iR_leR d_6_1_0 (iR_c (n := 0) (a := 0) (b := 0) (by decide +kernel) (by decide +kernel)) (iR_top _) (by decide +kernel)
    have f_9_3 : iR x1 0 1 := iR_leL d_6_1_1 f_9_2 (iR_c (n := 1) (a := 1) (b := 1) (by decide +kernel) (by decide +kernel)) (by decide +kernel)
    rcases (show x1.toInt = 0 ∨ x1.toInt = 1 by have q9 := f_9_3; unfold iR at q9; omega) with c_9 | c_9
    · obtain rfl : x1 = 0 := k_eqL (by decide +kernel) c_9
      refine lv_iload_n hx hb dX7_letter_9 rfl (lv_at hl 2 rfl) ?_
      refine lv_iconst (v := 0) hx hb dX7_letter_10 (by decide +kernel) ?_
      refine lv_aload_n hx hb dX7_letter_11 rfl (lv_at hl 0 rfl) ?_
      refine lv_aload_n hx hb dX7_letter_12 rfl (lv_at hl 0 rfl) ?_
      have f_13v0_4 : iR (i 13) 0 1 := hI 13
      refine k_get (D := (dC, dI)) (ci := 7) (v := .int (i 13)) (C := RX7) (T := TX7) (N := 92) hx hb hts hinX7 hown hK hP 0 rfl rfl 13 (by decide) w_0 rfl rfl dX7_letter_13 ?_
      refine lv_iload_n hx hb dX7_letter_16 rfl (lv_at hl 1 rfl) ?_
      refine k_ci (wc := [(h, .inr (7, oM r i j)), ((r 14), .inl (cI, 2, .inl f14))]) (wr := [((r 18), .inl (cI, 2, .inl f18)), ((r 34), .inl (cJ, 20, .inr (.inl g34))), ((r 35), .inl (cJ, 24, .inr (.inl g35)))]) (fun hPc hDc hFc => va_runV (As := [.int (i 13), .int 0]) (rest := [.int 0, .int x2]) ⟨hx, hb, hml, hown, hts⟩ (s_X7_manyOf_v0 l dC dI cI cJ cZ cM h r i j (i 13) f14 f_13v0_4 hI hf14 H.size) (cwV 2 hts gX7_letter_X7_manyOf rfl rfl rfl (by decide +kernel) ⟨(Nat.le_of_ble_eq_true rfl), (Nat.le_of_ble_eq_true rfl)⟩) (k_pV hPc hDc hK hN hC hS hFc hP (q0 := 0) (ci := 7) rfl rfl) rfl rfl hl.1 rfl (lv_room (Nat.le_of_ble_eq_true rfl)) dX7_letter_17 ⟨(Nat.le_of_ble_eq_true rfl), (Nat.le_of_ble_eq_true rfl)⟩) hP hD hS hA [0, 1] [2, 3, 4] rfl rfl rfl rfl (by decide) (fun _ => rfl) 0 0 rfl rfl (fun r_17v0 u_17v0 H locs hw hP hD hS => ?_)
      have g_17v0_0 := hw
      obtain rfl : r_17v0 = (f14 (i 13).toNatClampNeg) := g_17v0_0
      have hP : va_P (dC, dI) vwCl [((r 18), .inl (cI, 2, .inl f18)), ((r 34), .inl (cJ, 20, .inr (.inl g34))), ((r 35), .inl (cJ, 24, .inr (.inl g35))), (h, .inr (7, oM r i j)), ((r 14), .inl (cI, 2, .inl f14))] H := hP
      have hD : va_D A [((r 18), .inl (cI, 2, .inl f18)), ((r 34), .inl (cJ, 20, .inr (.inl g34))), ((r 35), .inl (cJ, 24, .inr (.inl g35))), (h, .inr (7, oM r i j)), ((r 14), .inl (cI, 2, .inl f14))] := hD
      refine lv_iconst (v := 1) hx hb dX7_letter_20 (by decide +kernel) ?_
      refine lv_isub hx hb dX7_letter_21 ?_
      refine lv_topi (fun y_21v0 ey_21v0 => ?_)
      have f_21v0_5 : iR y_21v0 (-1) 9 := iR_sub ey_21v0 (show iR (f14 (i 13).toNatClampNeg) 0 10 from hf14 _) (iR_c (n := 1) (a := 1) (b := 1) (by decide +kernel) (by decide +kernel)) (by decide +kernel)
      refine k_ci (wc := []) (wr := [((r 18), .inl (cI, 2, .inl f18)), ((r 34), .inl (cJ, 20, .inr (.inl g34))), ((r 35), .inl (cJ, 24, .inr (.inl g35))), (h, .inr (7, oM r i j)), ((r 14), .inl (cI, 2, .inl f14))]) (fun hPc hDc hFc => va_runS (As := [.int x2, .int 0, .int y_21v0]) (rest := []) ⟨hx, hb, hml, hown, hts⟩ (s_X7_is_v0 l dC dI cI cJ cZ cM x2 0 y_21v0 H.size) (va_cwS 3 hts gX7_letter_X7_is rfl rfl rfl (by decide +kernel) ⟨(Nat.le_of_ble_eq_true rfl), (Nat.le_of_ble_eq_true rfl)⟩) (k_pS hPc hDc hK hN hC hS hFc) rfl rfl hl.1 rfl (lv_room (Nat.le_of_ble_eq_true rfl)) dX7_letter_22 ⟨(Nat.le_of_ble_eq_true rfl), (Nat.le_of_ble_eq_true rfl)⟩) hP hD hS hA [] [0, 1, 2, 3, 4] rfl rfl rfl rfl (by decide) (fun _ => rfl) 0 0 rfl rfl (fun r_22v0 u_22v0 H locs hw hP hD hS => ?_)
      obtain ⟨g_22v0_0, g_22v0_1⟩ := hw
      have hP : va_P (dC, dI) vwCl [((r 18), .inl (cI, 2, .inl f18)), ((r 34), .inl (cJ, 20, .inr (.inl g34))), ((r 35), .inl (cJ, 24, .inr (.inl g35))), (h, .inr (7, oM r i j)), ((r 14), .inl (cI, 2, .inl f14))] H := hP
      have hD : va_D A [((r 18), .inl (cI, 2, .inl f18)), ((r 34), .inl (cJ, 20, .inr (.inl g34))), ((r 35), .inl (cJ, 24, .inr (.inl g35))), (h, .inr (7, oM r i j)), ((r 14), .inl (cI, 2, .inl f14))] := hD
      have g_22v0_1 : (r_22v0 = 0) ∨ ((0 ≤ x2) ∧ (x2 ≤ y_21v0)) := g_22v0_1
      refine lv_if_eq (tgt := 37) hx hb dX7_letter_25 (by decide) (fun c_25v0 => ?_) (fun c_25v0 => ?_)
      · have c_25v0 : r_22v0 = 0 := c_25v0
        have f_37v0_6 : iR r_22v0 0 0 := iR_eqL c_25v0 g_22v0_0 (iR_c (n := 0) (a := 0) (b := 0) (by decide +kernel) (by decide +kernel)) (by decide +kernel)
        exact J_37   H locs ls (hP.sub [3, 4, 0, 1, 2] rfl) (hD.sub [3, 4, 0, 1, 2] (by decide +kernel) rfl) hS (lv_sub hl [] rfl)
      · have c_25v0 : ¬ r_22v0 = 0 := c_25v0
        have f_28v0_6 : iR r_22v0 1 1 := iR_neL c_25v0 g_22v0_0 (iR_c (n := 0) (a := 0) (b := 0) (by decide +kernel) (by decide +kernel)) (by decide +kernel)
        obtain ⟨d_25v0_2_0, d_25v0_2_1⟩ := g_22v0_1.resolve_left c_25v0
        have f_28v0_7 : iR x2 0 2147483647 := iR_leR d_25v0_2_0 (iR_c (n := 0) (a := 0) (b := 0) (by decide +kernel) (by decide +kernel)) (iR_top _) (by decide +kernel)
        have f_28v0_8 : iR x2 0 9 := iR_leL d_25v0_2_1 f_28v0_7 f_21v0_5 (by decide +kernel)
        have f_28v0_9 : iR y_21v0 0 9 := iR_leR d_25v0_2_1 f_28v0_7 f_21v0_5 (by decide +kernel)
        refine lv_iload_n hx hb dX7_letter_28 rfl (lv_at hl 3 rfl) ?_
        refine lv_iconst (v := 0) hx hb dX7_letter_29 (by decide +kernel) ?_
        refine lv_iconst (v := 5) hx hb dX7_letter_30 (by decide +kernel) ?_
        refine k_ci (wc := []) (wr := [((r 18), .inl (cI, 2, .inl f18)), ((r 34), .inl (cJ, 20, .inr (.inl g34))), ((r 35), .inl (cJ, 24, .inr (.inl g35))), (h, .inr (7, oM r i j)), ((r 14), .inl (cI, 2, .inl f14))]) (fun hPc hDc hFc => va_runS (As := [.int x3, .int 0, .int 5]) (rest := []) ⟨hx, hb, hml, hown, hts⟩ (s_X7_is_v0 l dC dI cI cJ cZ cM x3 0 5 H.size) (va_cwS 3 hts gX7_letter_X7_is rfl rfl rfl (by decide +kernel) ⟨(Nat.le_of_ble_eq_true rfl), (Nat.le_of_ble_eq_true rfl)⟩) (k_pS hPc hDc hK hN hC hS hFc) rfl rfl hl.1 rfl (lv_room (Nat.le_of_ble_eq_true rfl)) dX7_letter_31 ⟨(Nat.le_of_ble_eq_true rfl), (Nat.le_of_ble_eq_true rfl)⟩) hP hD hS hA [] [0, 1, 2, 3, 4] rfl rfl rfl rfl (by decide) (fun _ => rfl) 0 0 rfl rfl (fun r_31v0 u_31v0 H locs hw hP hD hS => ?_)
        obtain ⟨g_31v0_0, g_31v0_1⟩ := hw
        have hP : va_P (dC, dI) vwCl [((r 18), .inl (cI, 2, .inl f18)), ((r 34), .inl (cJ, 20, .inr (.inl g34))), ((r 35), .inl (cJ, 24, .inr (.inl g35))), (h, .inr (7, oM r i j)), ((r 14), .inl (cI, 2, .inl f14))] H := hP
        have hD : va_D A [((r 18), .inl (cI, 2, .inl f18)), ((r 34), .inl (cJ, 20, .inr (.inl g34))), ((r 35), .inl (cJ, 24, .inr (.inl g35))), (h, .inr (7, oM r i j)), ((r 14), .inl (cI, 2, .inl f14))] := hD
        have g_31v0_1 : (r_31v0 = 0) ∨ ((0 ≤ x3) ∧ (x3 ≤ 5)) := g_31v0_1
        refine lv_if_ne (tgt := 39) hx hb dX7_letter_34 (by decide) (fun c_34v0 => ?_) (fun c_34v0 => ?_)
        · have c_34v0 : ¬ r_31v0 = 0 := c_34v0
          have f_39v0_10 : iR r_31v0 1 1 := iR_neL c_34v0 g_31v0_0 (iR_c (n := 0) (a := 0) (b := 0) (by decide +kernel) (by decide +kernel)) (by decide +kernel)
          obtain ⟨d_34v0_3_0, d_34v0_3_1⟩ := g_31v0_1.resolve_left c_34v0
          have f_39v0_11 : iR x3 0 2147483647 := iR_leR d_34v0_3_0 (iR_c (n := 0) (a := 0) (b := 0) (by decide +kernel) (by decide +kernel)) (iR_top _) (by decide +kernel)
          have f_39v0_12 : iR x3 0 5 := iR_leL d_34v0_3_1 f_39v0_11 (iR_c (n := 5) (a := 5) (b := 5) (by decide +kernel) (by decide +kernel)) (by decide +kernel)
          refine lv_aload_n hx hb dX7_letter_39 rfl (lv_at hl 0 rfl) ?_
          refine lv_aload_n hx hb dX7_letter_40 rfl (lv_at hl 0 rfl) ?_
          refine k_get (D := (dC, dI)) (ci := 7) (v := .int (i 13)) (C := RX7) (T := TX7) (N := 92) hx hb hts hinX7 hown hK hP 3 rfl rfl 13 (by decide) w_0 rfl rfl dX7_letter_41 ?_
          refine lv_iload_n hx hb dX7_letter_44 rfl (lv_at hl 1 rfl) ?_
          refine lv_iload_n hx hb dX7_letter_45 rfl (lv_at hl 2 rfl) ?_
          refine k_cl (wc := [(h, .inr (7, oM r i j)), ((r 34), .inl (cJ, 20, .inr (.inl g34)))]) (wr := [((r 18), .inl (cI, 2, .inl f18)), ((r 35), .inl (cJ, 24, .inr (.inl g35))), ((r 14), .inl (cI, 2, .inl f14))]) (fun hPc hDc hFc => va_runV (As := [.int (i 13), .int 0, .int x2]) (rest := []) ⟨hx, hb, hml, hown, hts⟩ (s_X7_nameOf_v0 l dC dI cI cJ cZ cM h r i j (i 13) x2 g34 f_13v0_4 f_28v0_8 hI H.size) (cwV 3 hts gX7_letter_X7_nameOf rfl rfl rfl (by decide +kernel) ⟨(Nat.le_of_ble_eq_true rfl), (Nat.le_of_ble_eq_true rfl)⟩) (k_pV hPc hDc hK hN hC hS hFc hP (q0 := 3) (ci := 7) rfl rfl) rfl rfl hl.1 rfl (lv_room (Nat.le_of_ble_eq_true rfl)) dX7_letter_46 ⟨(Nat.le_of_ble_eq_true rfl), (Nat.le_of_ble_eq_true rfl)⟩) hP hD hS hA [3, 1] [0, 2, 4] rfl rfl rfl rfl (by decide) (fun _ => rfl) 0 0 rfl rfl (fun r_46v0 u_46v0 H locs hw hP hD hS => ?_)
          have hP : va_P (dC, dI) vwCl [((r 18), .inl (cI, 2, .inl f18)), ((r 35), .inl (cJ, 24, .inr (.inl g35))), ((r 14), .inl (cI, 2, .inl f14)), (h, .inr (7, oM r i j)), ((r 34), .inl (cJ, 20, .inr (.inl g34)))] H := hP
          have hD : va_D A [((r 18), .inl (cI, 2, .inl f18)), ((r 35), .inl (cJ, 24, .inr (.inl g35))), ((r 14), .inl (cI, 2, .inl f14)), (h, .inr (7, oM r i j)), ((r 34), .inl (cJ, 20, .inr (.inl g34)))] := hD
          refine lv_lstore (lv' := [(4, .long r_46v0), (0, .ref h), (1, .int 0), (2, .int x2), (3, .int x3)]) hx hb dX7_letter_49 hl (by decide) rfl (fun ls hl => ?_)
          refine lv_iconst (v := 0) hx hb dX7_letter_51 (by decide +kernel) ?_
          refine lv_istore (lv' := [(6, .int 0), (4, .long r_46v0), (0, .ref h), (1, .int 0), (2, .int x2), (3, .int x3)]) hx hb dX7_letter_52 hl (by decide) rfl (fun ls hl => ?_)
          refine lv_lload hx hb dX7_letter_54 (lv_at hl 1 rfl) ?_
          have J_58v0 : ∀ (n_58v0 : Nat) (j58v0_L6 : Int32) (j58v0_L7 : Int64)  (hm_58v0 : j58v0_L7.toInt.toNat < n_58v0) (H : Heap) (locs : List Loc) (ls : Array Slot), va_P (dC, dI) vwCl [(h, .inr (7, oM r i j)), ((r 14), .inl (cI, 2, .inl f14)), ((r 18), .inl (cI, 2, .inl f18)), ((r 34), .inl (cJ, 20, .inr (.inl g34))), ((r 35), .inl (cJ, 24, .inr (.inl g35)))] H → va_D A [(h, .inr (7, oM r i j)), ((r 14), .inl (cI, 2, .inl f14)), ((r 18), .inl (cI, 2, .inl f18)), ((r 34), .inl (cJ, 20, .inr (.inl g34))), ((r 35), .inl (cJ, 24, .inr (.inl g35)))] → va_S A s.heap H locs → lv_has ls 9 [(3, .int x3), (4, .long r_46v0), (6, .int j58v0_L6), (7, .long j58v0_L7)] → W p l e ({ frames := 2, cells := 0, slots := 0, locals := 63 }) s m args below meth c H locs 0 0 (MQ below (va_Qi (fun (r9 : Int32) (u9 : Unit) => True) (fun u => k_B (dC, dI) vwCl (tyy cI cJ cZ cM) A ((fun (u9 : Unit) => [(h, .inr (7, oM r i j)), ((r 14), .inl (cI, 2, .inl f14)), ((r 18), .inl (cI, 2, .inl f18)), ((r 34), .inl (cJ, 20, .inr (.inl g34))), ((r 35), .inl (cJ, 24, .inr (.inl g35)))]) u)) A) args s 0 0 A) (F0 m 58 ls []) := by
            intro n_58v0
            induction n_58v0 with
            | zero => intro j58v0_L6 j58v0_L7  hm_58v0; exact absurd hm_58v0 (Nat.not_lt_zero _)
            | succ n_58v0 ih_58v0 =>
              intro j58v0_L6 j58v0_L7  hm_58v0 H locs ls hP hD hS hl
              refine lv_lload hx hb dX7_letter_58 (lv_at hl 3 rfl) ?_
              refine lv_lconst (v := 0) hx hb dX7_letter_60 (by decide +kernel) ?_
              refine W.lcmp hx hb dX7_letter_61 ?_
              refine lv_topi (fun y_61v0 ey_61v0 => ?_)
              refine lv_if_le (tgt := 78) hx hb dX7_letter_62 (by decide) (fun c_62v0 => ?_) (fun c_62v0 => ?_)
              · have c_62v0 : y_61v0 ≤ 0 := c_62v0
                have f_78v0_1 : iR y_61v0 (-2147483648) 0 := iR_leL c_62v0 (iR_top _) (iR_c (n := 0) (a := 0) (b := 0) (by decide +kernel) (by decide +kernel)) (by decide +kernel)
                have lc_62v0 : j58v0_L7 ≤ 0 := l_cmple ey_61v0 c_62v0
                refine lv_iload_n hx hb dX7_letter_78 rfl (lv_at hl 0 rfl) ?_
                refine lv_iload hx hb dX7_letter_79 (lv_at hl 2 rfl) ?_
                refine lv_icmp_lt (tgt := 88) hx hb dX7_letter_81 (by decide) (fun c_81v0 => ?_) (fun c_81v0 => ?_)
                · have c_81v0 : x3 < j58v0_L6 := c_81v0
                  have f_88v0_2 : iR j58v0_L6 1 2147483647 := iR_ltR c_81v0 f_39v0_12 (iR_top _) (by decide +kernel)
                  refine lv_lload hx hb dX7_letter_88 (lv_at hl 1 rfl) ?_
                  refine lv_bipush (v := 8) hx hb dX7_letter_90 (by decide +kernel) ?_
                  refine lv_iload hx hb dX7_letter_92 (lv_at hl 2 rfl) ?_
                  refine lv_iconst (v := 1) hx hb dX7_letter_94 (by decide +kernel) ?_
                  refine lv_isub hx hb dX7_letter_95 ?_
                  refine lv_topi (fun y_95v0 ey_95v0 => ?_)
                  have f_95v0_3 : iR y_95v0 0 2147483646 := iR_sub ey_95v0 f_88v0_2 (iR_c (n := 1) (a := 1) (b := 1) (by decide +kernel) (by decide +kernel)) (by decide +kernel)
                  refine lv_iload_n hx hb dX7_letter_96 rfl (lv_at hl 0 rfl) ?_
                  refine lv_isub hx hb dX7_letter_97 ?_
                  refine lv_topi (fun y_97v0 ey_97v0 => ?_)
                  have f_97v0_4 : iR y_97v0 (-5) 2147483646 := iR_sub ey_97v0 f_95v0_3 f_39v0_12 (by decide +kernel)
                  refine lv_imul hx hb dX7_letter_98 ?_
                  refine lv_topi (fun y_98v0 ey_98v0 => ?_)
                  refine lv_lshr (v := r_46v0 >>> (y_98v0.toInt64 &&& 63)) hx hb dX7_letter_99 rfl ?_
                  refine lv_topl (fun y_99v0 ey_99v0 => ?_)
                  refine lv_ldc2 (v := 255) hx hb hown w_1 dX7_letter_100 ?_
                  refine lv_land hx hb dX7_letter_103 ?_
                  refine lv_topl (fun y_103v0 ey_103v0 => ?_)
                  refine lv_l2i (v := y_103v0.toInt32) hx hb dX7_letter_104 rfl ?_
                  refine lv_topi (fun y_104v0 ey_104v0 => ?_)
                  refine lv_bipush (v := 97) hx hb dX7_letter_105 (by decide +kernel) ?_
                  refine lv_isub hx hb dX7_letter_107 ?_
                  refine lv_topi (fun y_107v0 ey_107v0 => ?_)
                  refine lv_iconst (v := 1) hx hb dX7_letter_108 (by decide +kernel) ?_
                  refine lv_iadd hx hb dX7_letter_109 ?_
                  refine lv_topi (fun y_109v0 ey_109v0 => ?_)
                  exact k_ri B hP hD hS dX7_letter_110 () [0, 1, 2, 3, 4] rfl rfl rfl (Nat.le_of_ble_eq_true rfl) (Nat.le_of_ble_eq_true rfl) trivial
                · have c_81v0 : j58v0_L6 ≤ x3 := i_nlt c_81v0
                  have f_84v0_2 : iR j58v0_L6 (-2147483648) 5 := iR_leL c_81v0 (iR_top _) f_39v0_12 (by decide +kernel)
                  refine lv_iconst (v := 0) hx hb dX7_letter_84 (by decide +kernel) ?_
                  refine lv_goto (tgt := 110) hx hb dX7_letter_85 (by decide) ?_
                  exact k_ri B hP hD hS dX7_letter_110 () [0, 1, 2, 3, 4] rfl rfl rfl (Nat.le_of_ble_eq_true rfl) (Nat.le_of_ble_eq_true rfl) trivial
              · have c_62v0 : 0 < y_61v0 := i_nle c_62v0
                have f_65v0_1 : iR y_61v0 1 2147483647 := iR_ltR c_62v0 (iR_c (n := 0) (a := 0) (b := 0) (by decide +kernel) (by decide +kernel)) (iR_top _) (by decide +kernel)
                have lc_62v0 : 0 < j58v0_L7 := l_cmpgt ey_61v0 c_62v0
                obtain ⟨y_65v0, ey_65v0⟩ : ∃ y : Int32, y = j58v0_L6 + 1 := ⟨_, rfl⟩
                refine lv_iinc (v := y_65v0) (lv' := [(6, .int y_65v0), (3, .int x3), (4, .long r_46v0), (7, .long j58v0_L7)]) hx hb dX7_letter_65 hl (k := 2) rfl ey_65v0.symm (by decide) rfl (fun ls hl => ?_)
                refine lv_lload hx hb dX7_letter_68 (lv_at hl 3 rfl) ?_
                refine lv_bipush (v := 8) hx hb dX7_letter_70 (by decide +kernel) ?_
                refine lv_lshr (v := j58v0_L7 >>> ((8 : Int32).toInt64 &&& 63)) hx hb dX7_letter_72 rfl ?_
                refine lv_topl (fun y_72v0 ey_72v0 => ?_)
                refine lv_lstore (lv' := [(7, .long y_72v0), (6, .int y_65v0), (3, .int x3), (4, .long r_46v0)]) hx hb dX7_letter_73 hl (by decide) rfl (fun ls hl => ?_)
                refine lv_goto (tgt := 58) hx hb dX7_letter_75 (by decide) ?_
                exact ih_58v0 y_65v0 y_72v0  (m_shr8 hm_58v0 ey_72v0 lc_62v0) H locs ls hP hD hS (lv_sub hl [2, 3, 1, 0] rfl)
          refine lv_lstore (lv' := [(7, .long r_46v0), (6, .int 0), (4, .long r_46v0), (0, .ref h), (1, .int 0), (2, .int x2), (3, .int x3)]) hx hb dX7_letter_56 hl (by decide) rfl (fun ls hl => ?_)
          exact J_58v0 _ 0 r_46v0  (Nat.lt_succ_self _) H locs ls (hP.sub [3, 2, 0, 4, 1] rfl) (hD.sub [3, 2, 0, 4, 1] (by decide +kernel) rfl) hS (lv_sub hl [6, 2, 1, 0] rfl)
        · have c_34v0 : r_31v0 = 0 := c_34v0
          have f_37v0_10 : iR r_31v0 0 0 := iR_eqL c_34v0 g_31v0_0 (iR_c (n := 0) (a := 0) (b := 0) (by decide +kernel) (by decide +kernel)) (by decide +kernel)
          exact J_37   H locs ls (hP.sub [3, 4, 0, 1, 2] rfl) (hD.sub [3, 4, 0, 1, 2] (by decide +kernel) rfl) hS (lv_sub hl [] rfl)
    · obtain rfl : x1 = 1 := k_eqL (by decide +kernel) c_9
      refine lv_iload_n hx hb dX7_letter_9 rfl (lv_at hl 2 rfl) ?_
      refine lv_iconst (v := 0) hx hb dX7_letter_10 (by decide +kernel) ?_
      refine lv_aload_n hx hb dX7_letter_11 rfl (lv_at hl 0 rfl) ?_
      refine lv_aload_n hx hb dX7_letter_12 rfl (lv_at hl 0 rfl) ?_
      have f_13v1_4 : iR (i 13) 0 1 := hI 13
      refine k_get (D := (dC, dI)) (ci := 7) (v := .int (i 13)) (C := RX7) (T := TX7) (N := 92) hx hb hts hinX7 hown hK hP 0 rfl rfl 13 (by decide) w_0 rfl rfl dX7_letter_13 ?_
      refine lv_iload_n hx hb dX7_letter_16 rfl (lv_at hl 1 rfl) ?_
      refine k_ci (wc := [(h, .inr (7, oM r i j)), ((r 18), .inl (cI, 2, .inl f18))]) (wr := [((r 14), .inl (cI, 2, .inl f14)), ((r 34), .inl (cJ, 20, .inr (.inl g34))), ((r 35), .inl (cJ, 24, .inr (.inl g35)))]) (fun hPc hDc hFc => va_runV (As := [.int (i 13), .int 1]) (rest := [.int 0, .int x2]) ⟨hx, hb, hml, hown, hts⟩ (s_X7_manyOf_v1 l dC dI cI cJ cZ cM h r i j (i 13) f18 f_13v1_4 hI hf18 H.size) (cwV 2 hts gX7_letter_X7_manyOf rfl rfl rfl (by decide +kernel) ⟨(Nat.le_of_ble_eq_true rfl), (Nat.le_of_ble_eq_true rfl)⟩) (k_pV hPc hDc hK hN hC hS hFc hP (q0 := 0) (ci := 7) rfl rfl) rfl rfl hl.1 rfl (lv_room (Nat.le_of_ble_eq_true rfl)) dX7_letter_17 ⟨(Nat.le_of_ble_eq_true rfl), (Nat.le_of_ble_eq_true rfl)⟩) hP hD hS hA [0, 2] [1, 3, 4] rfl rfl rfl rfl (by decide) (fun _ => rfl) 0 0 rfl rfl (fun r_17v1 u_17v1 H locs hw hP hD hS => ?_)
      have g_17v1_0 := hw
      obtain rfl : r_17v1 = (f18 (i 13).toNatClampNeg) := g_17v1_0
      have hP : va_P (dC, dI) vwCl [((r 14), .inl (cI, 2, .inl f14)), ((r 34), .inl (cJ, 20, .inr (.inl g34))), ((r 35), .inl (cJ, 24, .inr (.inl g35))), (h, .inr (7, oM r i j)), ((r 18), .inl (cI, 2, .inl f18))] H := hP
      have hD : va_D A [((r 14), .inl (cI, 2, .inl f14)), ((r 34), .inl (cJ, 20, .inr (.inl g34))), ((r 35), .inl (cJ, 24, .inr (.inl g35))), (h, .inr (7, oM r i j)), ((r 18), .inl (cI, 2, .inl f18))] := hD
      refine lv_iconst (v := 1) hx hb dX7_letter_20 (by decide +kernel) ?_
      refine lv_isub hx hb dX7_letter_21 ?_
      refine lv_topi (fun y_21v1 ey_21v1 => ?_)
      have f_21v1_5 : iR y_21v1 (-1) 11 := iR_sub ey_21v1 (show iR (f18 (i 13).toNatClampNeg) 0 12 from hf18 _) (iR_c (n := 1) (a := 1) (b := 1) (by decide +kernel) (by decide +kernel)) (by decide +kernel)
      refine k_ci (wc := []) (wr := [((r 14), .inl (cI, 2, .inl f14)), ((r 34), .inl (cJ, 20, .inr (.inl g34))), ((r 35), .inl (cJ, 24, .inr (.inl g35))), (h, .inr (7, oM r i j)), ((r 18), .inl (cI, 2, .inl f18))]) (fun hPc hDc hFc => va_runS (As := [.int x2, .int 0, .int y_21v1]) (rest := []) ⟨hx, hb, hml, hown, hts⟩ (s_X7_is_v0 l dC dI cI cJ cZ cM x2 0 y_21v1 H.size) (va_cwS 3 hts gX7_letter_X7_is rfl rfl rfl (by decide +kernel) ⟨(Nat.le_of_ble_eq_true rfl), (Nat.le_of_ble_eq_true rfl)⟩) (k_pS hPc hDc hK hN hC hS hFc) rfl rfl hl.1 rfl (lv_room (Nat.le_of_ble_eq_true rfl)) dX7_letter_22 ⟨(Nat.le_of_ble_eq_true rfl), (Nat.le_of_ble_eq_true rfl)⟩) hP hD hS hA [] [0, 1, 2, 3, 4] rfl rfl rfl rfl (by decide) (fun _ => rfl) 0 0 rfl rfl (fun r_22v1 u_22v1 H locs hw hP hD hS => ?_)
      obtain ⟨g_22v1_0, g_22v1_1⟩ := hw
      have hP : va_P (dC, dI) vwCl [((r 14), .inl (cI, 2, .inl f14)), ((r 34), .inl (cJ, 20, .inr (.inl g34))), ((r 35), .inl (cJ, 24, .inr (.inl g35))), (h, .inr (7, oM r i j)), ((r 18), .inl (cI, 2, .inl f18))] H := hP
      have hD : va_D A [((r 14), .inl (cI, 2, .inl f14)), ((r 34), .inl (cJ, 20, .inr (.inl g34))), ((r 35), .inl (cJ, 24, .inr (.inl g35))), (h, .inr (7, oM r i j)), ((r 18), .inl (cI, 2, .inl f18))] := hD
      have g_22v1_1 : (r_22v1 = 0) ∨ ((0 ≤ x2) ∧ (x2 ≤ y_21v1)) := g_22v1_1
      refine lv_if_eq (tgt := 37) hx hb dX7_letter_25 (by decide) (fun c_25v1 => ?_) (fun c_25v1 => ?_)
      · have c_25v1 : r_22v1 = 0 := c_25v1
        have f_37v1_6 : iR r_22v1 0 0 := iR_eqL c_25v1 g_22v1_0 (iR_c (n := 0) (a := 0) (b := 0) (by decide +kernel) (by decide +kernel)) (by decide +kernel)
        exact J_37   H locs ls (hP.sub [3, 0, 4, 1, 2] rfl) (hD.sub [3, 0, 4, 1, 2] (by decide +kernel) rfl) hS (lv_sub hl [] rfl)
      · have c_25v1 : ¬ r_22v1 = 0 := c_25v1
        have f_28v1_6 : iR r_22v1 1 1 := iR_neL c_25v1 g_22v1_0 (iR_c (n := 0) (a := 0) (b := 0) (by decide +kernel) (by decide +kernel)) (by decide +kernel)
        obtain ⟨d_25v1_2_0, d_25v1_2_1⟩ := g_22v1_1.resolve_left c_25v1
        have f_28v1_7 : iR x2 0 2147483647 := iR_leR d_25v1_2_0 (iR_c (n := 0) (a := 0) (b := 0) (by decide +kernel) (by decide +kernel)) (iR_top _) (by decide +kernel)
        have f_28v1_8 : iR x2 0 11 := iR_leL d_25v1_2_1 f_28v1_7 f_21v1_5 (by decide +kernel)
        have f_28v1_9 : iR y_21v1 0 11 := iR_leR d_25v1_2_1 f_28v1_7 f_21v1_5 (by decide +kernel)
        refine lv_iload_n hx hb dX7_letter_28 rfl (lv_at hl 3 rfl) ?_
        refine lv_iconst (v := 0) hx hb dX7_letter_29 (by decide +kernel) ?_
        refine lv_iconst (v := 5) hx hb dX7_letter_30 (by decide +kernel) ?_
        refine k_ci (wc := []) (wr := [((r 14), .inl (cI, 2, .inl f14)), ((r 34), .inl (cJ, 20, .inr (.inl g34))), ((r 35), .inl (cJ, 24, .inr (.inl g35))), (h, .inr (7, oM r i j)), ((r 18), .inl (cI, 2, .inl f18))]) (fun hPc hDc hFc => va_runS (As := [.int x3, .int 0, .int 5]) (rest := []) ⟨hx, hb, hml, hown, hts⟩ (s_X7_is_v0 l dC dI cI cJ cZ cM x3 0 5 H.size) (va_cwS 3 hts gX7_letter_X7_is rfl rfl rfl (by decide +kernel) ⟨(Nat.le_of_ble_eq_true rfl), (Nat.le_of_ble_eq_true rfl)⟩) (k_pS hPc hDc hK hN hC hS hFc) rfl rfl hl.1 rfl (lv_room (Nat.le_of_ble_eq_true rfl)) dX7_letter_31 ⟨(Nat.le_of_ble_eq_true rfl), (Nat.le_of_ble_eq_true rfl)⟩) hP hD hS hA [] [0, 1, 2, 3, 4] rfl rfl rfl rfl (by decide) (fun _ => rfl) 0 0 rfl rfl (fun r_31v1 u_31v1 H locs hw hP hD hS => ?_)
        obtain ⟨g_31v1_0, g_31v1_1⟩ := hw
        have hP : va_P (dC, dI) vwCl [((r 14), .inl (cI, 2, .inl f14)), ((r 34), .inl (cJ, 20, .inr (.inl g34))), ((r 35), .inl (cJ, 24, .inr (.inl g35))), (h, .inr (7, oM r i j)), ((r 18), .inl (cI, 2, .inl f18))] H := hP
        have hD : va_D A [((r 14), .inl (cI, 2, .inl f14)), ((r 34), .inl (cJ, 20, .inr (.inl g34))), ((r 35), .inl (cJ, 24, .inr (.inl g35))), (h, .inr (7, oM r i j)), ((r 18), .inl (cI, 2, .inl f18))] := hD
        have g_31v1_1 : (r_31v1 = 0) ∨ ((0 ≤ x3) ∧ (x3 ≤ 5)) := g_31v1_1
        refine lv_if_ne (tgt := 39) hx hb dX7_letter_34 (by decide) (fun c_34v1 => ?_) (fun c_34v1 => ?_)
        · have c_34v1 : ¬ r_31v1 = 0 := c_34v1
          have f_39v1_10 : iR r_31v1 1 1 := iR_neL c_34v1 g_31v1_0 (iR_c (n := 0) (a := 0) (b := 0) (by decide +kernel) (by decide +kernel)) (by decide +kernel)
          obtain ⟨d_34v1_3_0, d_34v1_3_1⟩ := g_31v1_1.resolve_left c_34v1
          have f_39v1_11 : iR x3 0 2147483647 := iR_leR d_34v1_3_0 (iR_c (n := 0) (a := 0) (b := 0) (by decide +kernel) (by decide +kernel)) (iR_top _) (by decide +kernel)
          have f_39v1_12 : iR x3 0 5 := iR_leL d_34v1_3_1 f_39v1_11 (iR_c (n := 5) (a := 5) (b := 5) (by decide +kernel) (by decide +kernel)) (by decide +kernel)
          refine lv_aload_n hx hb dX7_letter_39 rfl (lv_at hl 0 rfl) ?_
          refine lv_aload_n hx hb dX7_letter_40 rfl (lv_at hl 0 rfl) ?_
          refine k_get (D := (dC, dI)) (ci := 7) (v := .int (i 13)) (C := RX7) (T := TX7) (N := 92) hx hb hts hinX7 hown hK hP 3 rfl rfl 13 (by decide) w_0 rfl rfl dX7_letter_41 ?_
          refine lv_iload_n hx hb dX7_letter_44 rfl (lv_at hl 1 rfl) ?_
          refine lv_iload_n hx hb dX7_letter_45 rfl (lv_at hl 2 rfl) ?_
          refine k_cl (wc := [(h, .inr (7, oM r i j)), ((r 35), .inl (cJ, 24, .inr (.inl g35)))]) (wr := [((r 14), .inl (cI, 2, .inl f14)), ((r 34), .inl (cJ, 20, .inr (.inl g34))), ((r 18), .inl (cI, 2, .inl f18))]) (fun hPc hDc hFc => va_runV (As := [.int (i 13), .int 1, .int x2]) (rest := []) ⟨hx, hb, hml, hown, hts⟩ (s_X7_nameOf_v1 l dC dI cI cJ cZ cM h r i j (i 13) x2 g35 f_13v1_4 f_28v1_8 hI H.size) (cwV 3 hts gX7_letter_X7_nameOf rfl rfl rfl (by decide +kernel) ⟨(Nat.le_of_ble_eq_true rfl), (Nat.le_of_ble_eq_true rfl)⟩) (k_pV hPc hDc hK hN hC hS hFc hP (q0 := 3) (ci := 7) rfl rfl) rfl rfl hl.1 rfl (lv_room (Nat.le_of_ble_eq_true rfl)) dX7_letter_46 ⟨(Nat.le_of_ble_eq_true rfl), (Nat.le_of_ble_eq_true rfl)⟩) hP hD hS hA [3, 2] [0, 1, 4] rfl rfl rfl rfl (by decide) (fun _ => rfl) 0 0 rfl rfl (fun r_46v1 u_46v1 H locs hw hP hD hS => ?_)
          have hP : va_P (dC, dI) vwCl [((r 14), .inl (cI, 2, .inl f14)), ((r 34), .inl (cJ, 20, .inr (.inl g34))), ((r 18), .inl (cI, 2, .inl f18)), (h, .inr (7, oM r i j)), ((r 35), .inl (cJ, 24, .inr (.inl g35)))] H := hP
          have hD : va_D A [((r 14), .inl (cI, 2, .inl f14)), ((r 34), .inl (cJ, 20, .inr (.inl g34))), ((r 18), .inl (cI, 2, .inl f18)), (h, .inr (7, oM r i j)), ((r 35), .inl (cJ, 24, .inr (.inl g35)))] := hD
          refine lv_lstore (lv' := [(4, .long r_46v1), (0, .ref h), (1, .int 1), (2, .int x2), (3, .int x3)]) hx hb dX7_letter_49 hl (by decide) rfl (fun ls hl => ?_)
          refine lv_iconst (v := 0) hx hb dX7_letter_51 (by decide +kernel) ?_
          refine lv_istore (lv' := [(6, .int 0), (4, .long r_46v1), (0, .ref h), (1, .int 1), (2, .int x2), (3, .int x3)]) hx hb dX7_letter_52 hl (by decide) rfl (fun ls hl => ?_)
          refine lv_lload hx hb dX7_letter_54 (lv_at hl 1 rfl) ?_
          have J_58v1 : ∀ (n_58v1 : Nat) (j58v1_L6 : Int32) (j58v1_L7 : Int64)  (hm_58v1 : j58v1_L7.toInt.toNat < n_58v1) (H : Heap) (locs : List Loc) (ls : Array Slot), va_P (dC, dI) vwCl [(h, .inr (7, oM r i j)), ((r 14), .inl (cI, 2, .inl f14)), ((r 18), .inl (cI, 2, .inl f18)), ((r 34), .inl (cJ, 20, .inr (.inl g34))), ((r 35), .inl (cJ, 24, .inr (.inl g35)))] H → va_D A [(h, .inr (7, oM r i j)), ((r 14), .inl (cI, 2, .inl f14)), ((r 18), .inl (cI, 2, .inl f18)), ((r 34), .inl (cJ, 20, .inr (.inl g34))), ((r 35), .inl (cJ, 24, .inr (.inl g35)))] → va_S A s.heap H locs → lv_has ls 9 [(3, .int x3), (4, .long r_46v1), (6, .int j58v1_L6), (7, .long j58v1_L7)] → W p l e ({ frames := 2, cells := 0, slots := 0, locals := 63 }) s m args below meth c H locs 0 0 (MQ below (va_Qi (fun (r9 : Int32) (u9 : Unit) => True) (fun u => k_B (dC, dI) vwCl (tyy cI cJ cZ cM) A ((fun (u9 : Unit) => [(h, .inr (7, oM r i j)), ((r 14), .inl (cI, 2, .inl f14)), ((r 18), .inl (cI, 2, .inl f18)), ((r 34), .inl (cJ, 20, .inr (.inl g34))), ((r 35), .inl (cJ, 24, .inr (.inl g35)))]) u)) A) args s 0 0 A) (F0 m 58 ls []) := by
            intro n_58v1
            induction n_58v1 with
            | zero => intro j58v1_L6 j58v1_L7  hm_58v1; exact absurd hm_58v1 (Nat.not_lt_zero _)
            | succ n_58v1 ih_58v1 =>
              intro j58v1_L6 j58v1_L7  hm_58v1 H locs ls hP hD hS hl
              refine lv_lload hx hb dX7_letter_58 (lv_at hl 3 rfl) ?_
              refine lv_lconst (v := 0) hx hb dX7_letter_60 (by decide +kernel) ?_
              refine W.lcmp hx hb dX7_letter_61 ?_
              refine lv_topi (fun y_61v1 ey_61v1 => ?_)
              refine lv_if_le (tgt := 78) hx hb dX7_letter_62 (by decide) (fun c_62v1 => ?_) (fun c_62v1 => ?_)
              · have c_62v1 : y_61v1 ≤ 0 := c_62v1
                have f_78v1_1 : iR y_61v1 (-2147483648) 0 := iR_leL c_62v1 (iR_top _) (iR_c (n := 0) (a := 0) (b := 0) (by decide +kernel) (by decide +kernel)) (by decide +kernel)
                have lc_62v1 : j58v1_L7 ≤ 0 := l_cmple ey_61v1 c_62v1
                refine lv_iload_n hx hb dX7_letter_78 rfl (lv_at hl 0 rfl) ?_
                refine lv_iload hx hb dX7_letter_79 (lv_at hl 2 rfl) ?_
                refine lv_icmp_lt (tgt := 88) hx hb dX7_letter_81 (by decide) (fun c_81v1 => ?_) (fun c_81v1 => ?_)
                · have c_81v1 : x3 < j58v1_L6 := c_81v1
                  have f_88v1_2 : iR j58v1_L6 1 2147483647 := iR_ltR c_81v1 f_39v1_12 (iR_top _) (by decide +kernel)
                  refine lv_lload hx hb dX7_letter_88 (lv_at hl 1 rfl) ?_
                  refine lv_bipush (v := 8) hx hb dX7_letter_90 (by decide +kernel) ?_
                  refine lv_iload hx hb dX7_letter_92 (lv_at hl 2 rfl) ?_
                  refine lv_iconst (v := 1) hx hb dX7_letter_94 (by decide +kernel) ?_
                  refine lv_isub hx hb dX7_letter_95 ?_
                  refine lv_topi (fun y_95v1 ey_95v1 => ?_)
                  have f_95v1_3 : iR y_95v1 0 2147483646 := iR_sub ey_95v1 f_88v1_2 (iR_c (n := 1) (a := 1) (b := 1) (by decide +kernel) (by decide +kernel)) (by decide +kernel)
                  refine lv_iload_n hx hb dX7_letter_96 rfl (lv_at hl 0 rfl) ?_
                  refine lv_isub hx hb dX7_letter_97 ?_
                  refine lv_topi (fun y_97v1 ey_97v1 => ?_)
                  have f_97v1_4 : iR y_97v1 (-5) 2147483646 := iR_sub ey_97v1 f_95v1_3 f_39v1_12 (by decide +kernel)
                  refine lv_imul hx hb dX7_letter_98 ?_
                  refine lv_topi (fun y_98v1 ey_98v1 => ?_)
                  refine lv_lshr (v := r_46v1 >>> (y_98v1.toInt64 &&& 63)) hx hb dX7_letter_99 rfl ?_
                  refine lv_topl (fun y_99v1 ey_99v1 => ?_)
                  refine lv_ldc2 (v := 255) hx hb hown w_1 dX7_letter_100 ?_
                  refine lv_land hx hb dX7_letter_103 ?_
                  refine lv_topl (fun y_103v1 ey_103v1 => ?_)
                  refine lv_l2i (v := y_103v1.toInt32) hx hb dX7_letter_104 rfl ?_
                  refine lv_topi (fun y_104v1 ey_104v1 => ?_)
                  refine lv_bipush (v := 97) hx hb dX7_letter_105 (by decide +kernel) ?_
                  refine lv_isub hx hb dX7_letter_107 ?_
                  refine lv_topi (fun y_107v1 ey_107v1 => ?_)
                  refine lv_iconst (v := 1) hx hb dX7_letter_108 (by decide +kernel) ?_
                  refine lv_iadd hx hb dX7_letter_109 ?_
                  refine lv_topi (fun y_109v1 ey_109v1 => ?_)
                  exact k_ri B hP hD hS dX7_letter_110 () [0, 1, 2, 3, 4] rfl rfl rfl (Nat.le_of_ble_eq_true rfl) (Nat.le_of_ble_eq_true rfl) trivial
                · have c_81v1 : j58v1_L6 ≤ x3 := i_nlt c_81v1
                  have f_84v1_2 : iR j58v1_L6 (-2147483648) 5 := iR_leL c_81v1 (iR_top _) f_39v1_12 (by decide +kernel)
                  refine lv_iconst (v := 0) hx hb dX7_letter_84 (by decide +kernel) ?_
                  refine lv_goto (tgt := 110) hx hb dX7_letter_85 (by decide) ?_
                  exact k_ri B hP hD hS dX7_letter_110 () [0, 1, 2, 3, 4] rfl rfl rfl (Nat.le_of_ble_eq_true rfl) (Nat.le_of_ble_eq_true rfl) trivial
              · have c_62v1 : 0 < y_61v1 := i_nle c_62v1
                have f_65v1_1 : iR y_61v1 1 2147483647 := iR_ltR c_62v1 (iR_c (n := 0) (a := 0) (b := 0) (by decide +kernel) (by decide +kernel)) (iR_top _) (by decide +kernel)
                have lc_62v1 : 0 < j58v1_L7 := l_cmpgt ey_61v1 c_62v1
                obtain ⟨y_65v1, ey_65v1⟩ : ∃ y : Int32, y = j58v1_L6 + 1 := ⟨_, rfl⟩
                refine lv_iinc (v := y_65v1) (lv' := [(6, .int y_65v1), (3, .int x3), (4, .long r_46v1), (7, .long j58v1_L7)]) hx hb dX7_letter_65 hl (k := 2) rfl ey_65v1.symm (by decide) rfl (fun ls hl => ?_)
                refine lv_lload hx hb dX7_letter_68 (lv_at hl 3 rfl) ?_
                refine lv_bipush (v := 8) hx hb dX7_letter_70 (by decide +kernel) ?_
                refine lv_lshr (v := j58v1_L7 >>> ((8 : Int32).toInt64 &&& 63)) hx hb dX7_letter_72 rfl ?_
                refine lv_topl (fun y_72v1 ey_72v1 => ?_)
                refine lv_lstore (lv' := [(7, .long y_72v1), (6, .int y_65v1), (3, .int x3), (4, .long r_46v1)]) hx hb dX7_letter_73 hl (by decide) rfl (fun ls hl => ?_)
                refine lv_goto (tgt := 58) hx hb dX7_letter_75 (by decide) ?_
                exact ih_58v1 y_65v1 y_72v1  (m_shr8 hm_58v1 ey_72v1 lc_62v1) H locs ls hP hD hS (lv_sub hl [2, 3, 1, 0] rfl)
          refine lv_lstore (lv' := [(7, .long r_46v1), (6, .int 0), (4, .long r_46v1), (0, .ref h), (1, .int 1), (2, .int x2), (3, .int x3)]) hx hb dX7_letter_56 hl (by decide) rfl (fun ls hl => ?_)
          exact J_58v1 _ 0 r_46v1  (Nat.lt_succ_self _) H locs ls (hP.sub [3, 0, 2, 1, 4] rfl) (hD.sub [3, 0, 2, 1, 4] (by decide +kernel) rfl) hS (lv_sub hl [6, 2, 1, 0] rfl)
        · have c_34v1 : r_31v1 = 0 := c_34v1
          have f_37v1_10 : iR r_31v1 0 0 := iR_eqL c_34v1 g_31v1_0 (iR_c (n := 0) (a := 0) (b := 0) (by decide +kernel) (by decide +kernel)) (by decide +kernel)
          exact J_37   H locs ls (hP.sub [3, 0, 4, 1, 2] rfl) (hD.sub [3, 0, 4, 1, 2] (by decide +kernel) rfl) hS (lv_sub hl [] rfl)
set_option maxHeartbeats 8000000 in
set_option maxRecDepth 100000 in
theorem s_X7_isThing_v0 (l : Launch) (dC : Nat → ClassId) (dI : Nat → Nat → Nat) (cI cJ cZ cM : ClassId) (h : Nat) (r : Nat → Nat) (i : Nat → Int32) (j : Nat → Int64) (x1 : Int32) (f14 : Nat → Int32) (hI : mR i) (hf14 : aR f14 0 10) : k_Mi l yX7_isThing wsX7_isThing ({ frames := 1, cells := 0, slots := 0, locals := 40 }) (dC, dI) vwCl (tyy cI cJ cZ cM) [(h, .inr (7, oM r i j)), ((r 14), .inl (cI, 2, .inl f14))] [.ref h, .int x1] 0 0 (fun (u9 : Unit) => [(h, .inr (7, oM r i j)), ((r 14), .inl (cI, 2, .inl f14))]) (fun (r9 : Int32) (u9 : Unit) => (iR r9 0 1) ∧ ((r9 = 0) ∨ ((0 ≤ x1) ∧ (x1 < (f14 (i 13).toNatClampNeg))))) := by
  refine fun sz => k_enter (cc := cX7_isThing) (maxL := 2) (ret := some (.boolean)) (Qc := fun A => va_Qi (fun (r9 : Int32) (u9 : Unit) => (iR r9 0 1) ∧ ((r9 = 0) ∨ ((0 ≤ x1) ∧ (x1 < (f14 (i 13).toNatClampNeg))))) (fun u => k_B (dC, dI) vwCl (tyy cI cJ cZ cM) A ((fun (u9 : Unit) => [(h, .inr (7, oM r i j)), ((r 14), .inl (cI, 2, .inl f14))]) u)) A) sz (by decide +kernel) rfl (Nat.le_of_ble_eq_true rfl) (fun p e s m args below meth c A ls H locs B hP hD hS hl => ?_)
  obtain ⟨hx, hb, hml, hown, hts, hr, hlk, hnm, hK, hA, hN, hC⟩ := id B
  have hown : s.vm.findClass RX7 = some m.cls := hown
  have hl : lv_has ls 2 [(0, .ref h), (1, .int x1)] := hl
  have w_0 : (Cond.fieldLink RX7 54 "WishSeaModel" "things" "[I").before args s = true := hts _ (List.mem_of_getElem? (i := 1) rfl)
  have w_1 : (Cond.fieldLink RX7 51 "WishSeaModel" "bank" "I").before args s = true := hts _ (List.mem_of_getElem? (i := 2) rfl)
  have hinX7 : ∀ w ∈ u_ws RX7 TX7 92, w ∈ wsX7_isThing := fun _ h => List.mem_cons_of_mem _ (List.mem_append_right _ h)
  refine lv_iload_n hx hb dX7_isThing_0 rfl (lv_at hl 1 rfl) ?_
  have J_21 : ∀   (H : Heap) (locs : List Loc) (ls : Array Slot), va_P (dC, dI) vwCl [(h, .inr (7, oM r i j)), ((r 14), .inl (cI, 2, .inl f14))] H → va_D A [(h, .inr (7, oM r i j)), ((r 14), .inl (cI, 2, .inl f14))] → va_S A s.heap H locs → lv_has ls 2 [] → W p l e ({ frames := 1, cells := 0, slots := 0, locals := 40 }) s m args below meth c H locs 0 0 (MQ below (va_Qi (fun (r9 : Int32) (u9 : Unit) => (iR r9 0 1) ∧ ((r9 = 0) ∨ ((0 ≤ x1) ∧ (x1 < (f14 (i 13).toNatClampNeg))))) (fun u => k_B (dC, dI) vwCl (tyy cI cJ cZ cM) A ((fun (u9 : Unit) => [(h, .inr (7, oM r i j)), ((r 14), .inl (cI, 2, .inl f14))]) u)) A) args s 0 0 A) (F0 m 21 ls []) := by
    intro   H locs ls hP hD hS hl
    refine lv_iconst (v := 0) hx hb dX7_isThing_21 (by decide +kernel) ?_
    exact k_ri B hP hD hS dX7_isThing_22 () [0, 1] rfl rfl rfl (Nat.le_of_ble_eq_true rfl) (Nat.le_of_ble_eq_true rfl) ⟨(show iR 0 0 1 from (iR_c (n := 0) (a := 0) (b := 1) (by decide +kernel) (by decide +kernel))), (show (0 = 0) ∨ ((0 ≤ x1) ∧ (x1 < (f14 (i 13).toNatClampNeg))) from (Or.inl rfl))⟩
  refine lv_if_lt (tgt := 21) hx hb dX7_isThing_1 (by decide) (fun c_1 => ?_) (fun c_1 => ?_)
  · have c_1 : x1 < 0 := c_1
    have f_21_1 : iR x1 (-2147483648) (-1) := iR_ltL c_1 (iR_top _) (iR_c (n := 0) (a := 0) (b := 0) (by decide +kernel) (by decide +kernel)) (by decide +kernel)
    exact J_21   H locs ls hP hD hS (lv_sub hl [] rfl)
  · have c_1 : 0 ≤ x1 := i_nlt c_1
    have f_4_1 : iR x1 0 2147483647 := iR_leR c_1 (iR_c (n := 0) (a := 0) (b := 0) (by decide +kernel) (by decide +kernel)) (iR_top _) (by decide +kernel)
    refine lv_iload_n hx hb dX7_isThing_4 rfl (lv_at hl 1 rfl) ?_
    refine lv_aload_n hx hb dX7_isThing_5 rfl (lv_at hl 0 rfl) ?_
    refine k_get (D := (dC, dI)) (ci := 7) (v := .ref (r 14)) (C := RX7) (T := TX7) (N := 92) hx hb hts hinX7 hown hK hP 0 rfl rfl 14 (by decide) w_0 rfl rfl dX7_isThing_6 ?_
    refine lv_aload_n hx hb dX7_isThing_9 rfl (lv_at hl 0 rfl) ?_
    have f_10_2 : iR (i 13) 0 1 := hI 13
    refine k_get (D := (dC, dI)) (ci := 7) (v := .int (i 13)) (C := RX7) (T := TX7) (N := 92) hx hb hts hinX7 hown hK hP 0 rfl rfl 13 (by decide) w_1 rfl rfl dX7_isThing_10 ?_
    refine va_iald hx hb hK hP 1 0 rfl rfl (iR_vp f_10_2 (by decide +kernel)) dX7_isThing_13 ?_
    have f_13_3 : iR (f14 (i 13).toNatClampNeg) 0 10 := hf14 _
    refine lv_icmp_ge (tgt := 21) hx hb dX7_isThing_14 (by decide) (fun c_14 => ?_) (fun c_14 => ?_)
    · have c_14 : (f14 (i 13).toNatClampNeg) ≤ x1 := c_14
      exact J_21   H locs ls hP hD hS (lv_sub hl [] rfl)
    · have c_14 : x1 < (f14 (i 13).toNatClampNeg) := i_nle c_14
      have f_17_4 : iR x1 0 9 := iR_ltL c_14 f_4_1 f_13_3 (by decide +kernel)
      have f_17_5 : iR (f14 (i 13).toNatClampNeg) 1 10 := iR_ltR c_14 f_4_1 f_13_3 (by decide +kernel)
      refine lv_iconst (v := 1) hx hb dX7_isThing_17 (by decide +kernel) ?_
      refine lv_goto (tgt := 22) hx hb dX7_isThing_18 (by decide) ?_
      exact k_ri B hP hD hS dX7_isThing_22 () [0, 1] rfl rfl rfl (Nat.le_of_ble_eq_true rfl) (Nat.le_of_ble_eq_true rfl) ⟨(show iR 1 0 1 from (iR_c (n := 1) (a := 0) (b := 1) (by decide +kernel) (by decide +kernel))), (show (1 = 0) ∨ ((0 ≤ x1) ∧ (x1 < (f14 (i 13).toNatClampNeg))) from (Or.inr ⟨c_1, c_14⟩))⟩
set_option maxHeartbeats 8000000 in
set_option maxRecDepth 100000 in
theorem s_X7_givesOf_v0 (l : Launch) (dC : Nat → ClassId) (dI : Nat → Nat → Nat) (cI cJ cZ cM : ClassId) (h : Nat) (r : Nat → Nat) (i : Nat → Int32) (j : Nat → Int64) (x1 : Int32) (f20 : Nat → Int32) (hx1 : iR x1 0 11) (hI : mR i) (hf20 : aR f20 0 9) : k_Mi l yX7_givesOf wsX7_givesOf ({ frames := 1, cells := 0, slots := 0, locals := 40 }) (dC, dI) vwCl (tyy cI cJ cZ cM) [(h, .inr (7, oM r i j)), ((r 20), .inl (cI, 24, .inl f20))] [.ref h, .int x1] 0 0 (fun (u9 : Unit) => [(h, .inr (7, oM r i j)), ((r 20), .inl (cI, 24, .inl f20))]) (fun (r9 : Int32) (u9 : Unit) => (iR r9 0 9)) := by
  refine fun sz => k_enter (cc := cX7_givesOf) (maxL := 2) (ret := some (.int)) (Qc := fun A => va_Qi (fun (r9 : Int32) (u9 : Unit) => (iR r9 0 9)) (fun u => k_B (dC, dI) vwCl (tyy cI cJ cZ cM) A ((fun (u9 : Unit) => [(h, .inr (7, oM r i j)), ((r 20), .inl (cI, 24, .inl f20))]) u)) A) sz (by decide +kernel) rfl (Nat.le_of_ble_eq_true rfl) (fun p e s m args below meth c A ls H locs B hP hD hS hl => ?_)
  obtain ⟨hx, hb, hml, hown, hts, hr, hlk, hnm, hK, hA, hN, hC⟩ := id B
  have hown : s.vm.findClass RX7 = some m.cls := hown
  have hl : lv_has ls 2 [(0, .ref h), (1, .int x1)] := hl
  have w_0 : (Cond.fieldLink RX7 72 "WishSeaModel" "wishGives" "[I").before args s = true := hts _ (List.mem_of_getElem? (i := 1) rfl)
  have w_1 : (Cond.fieldLink RX7 51 "WishSeaModel" "bank" "I").before args s = true := hts _ (List.mem_of_getElem? (i := 2) rfl)
  have hinX7 : ∀ w ∈ u_ws RX7 TX7 92, w ∈ wsX7_givesOf := fun _ h => List.mem_cons_of_mem _ (List.mem_append_right _ h)
  refine lv_aload_n hx hb dX7_givesOf_0 rfl (lv_at hl 0 rfl) ?_
  refine k_get (D := (dC, dI)) (ci := 7) (v := .ref (r 20)) (C := RX7) (T := TX7) (N := 92) hx hb hts hinX7 hown hK hP 0 rfl rfl 20 (by decide) w_0 rfl rfl dX7_givesOf_1 ?_
  refine lv_bipush (v := 12) hx hb dX7_givesOf_4 (by decide +kernel) ?_
  refine lv_aload_n hx hb dX7_givesOf_6 rfl (lv_at hl 0 rfl) ?_
  have f_7_1 : iR (i 13) 0 1 := hI 13
  refine k_get (D := (dC, dI)) (ci := 7) (v := .int (i 13)) (C := RX7) (T := TX7) (N := 92) hx hb hts hinX7 hown hK hP 0 rfl rfl 13 (by decide) w_1 rfl rfl dX7_givesOf_7 ?_
  refine lv_imul hx hb dX7_givesOf_10 ?_
  refine lv_topi (fun y_10 ey_10 => ?_)
  have f_10_2 : iR y_10 0 12 := iR_mul ey_10 (iR_c (n := 12) (a := 12) (b := 12) (by decide +kernel) (by decide +kernel)) f_7_1 (by decide +kernel)
  refine lv_iload_n hx hb dX7_givesOf_11 rfl (lv_at hl 1 rfl) ?_
  refine lv_iadd hx hb dX7_givesOf_12 ?_
  refine lv_topi (fun y_12 ey_12 => ?_)
  have f_12_3 : iR y_12 0 23 := iR_add ey_12 f_10_2 hx1 (by decide +kernel)
  refine va_iald hx hb hK hP 1 0 rfl rfl (iR_vp f_12_3 (by decide +kernel)) dX7_givesOf_13 ?_
  have f_13_4 : iR (f20 y_12.toNatClampNeg) 0 9 := hf20 _
  exact k_ri B hP hD hS dX7_givesOf_14 () [0, 1] rfl rfl rfl (Nat.le_of_ble_eq_true rfl) (Nat.le_of_ble_eq_true rfl) (show iR (f20 y_12.toNatClampNeg) 0 9 from f_13_4)
set_option maxHeartbeats 8000000 in
set_option maxRecDepth 100000 in
theorem s_X7_thing_v0 (l : Launch) (dC : Nat → ClassId) (dI : Nat → Nat → Nat) (cI cJ cZ cM : ClassId) (h : Nat) (r : Nat → Nat) (i : Nat → Int32) (j : Nat → Int64) (x1 : Int32) (x2 : Int32) (f14 : Nat → Int32) (f15 : Nat → Int32) (f16 : Nat → Int32) (f17 : Nat → Int32) (f18 : Nat → Int32) (f20 : Nat → Int32) (f23 : Nat → Int32) (f49 : Nat → Int32) (hI : mR i) (hf14 : aR f14 0 10) (hf17 : aR f17 0 1) (hf18 : aR f18 0 12) (hf20 : aR f20 0 9) (hf23 : aR f23 0 1023) (hf49 : aR f49 0 1023) : k_Mi l yX7_thing wsX7_thing ({ frames := 2, cells := 0, slots := 0, locals := 61 }) (dC, dI) vwCl (tyy cI cJ cZ cM) [(h, .inr (7, oM r i j)), ((r 14), .inl (cI, 2, .inl f14)), ((r 15), .inl (cI, 20, .inl f15)), ((r 16), .inl (cI, 20, .inl f16)), ((r 17), .inl (cI, 20, .inl f17)), ((r 18), .inl (cI, 2, .inl f18)), ((r 20), .inl (cI, 24, .inl f20)), ((r 23), .inl (cI, 2, .inl f23)), ((r 49), .inl (cI, 22, .inl f49))] [.ref h, .int x1, .int x2] 0 0 (fun (u9 : Unit) => [(h, .inr (7, oM r i j)), ((r 14), .inl (cI, 2, .inl f14)), ((r 15), .inl (cI, 20, .inl f15)), ((r 16), .inl (cI, 20, .inl f16)), ((r 17), .inl (cI, 20, .inl f17)), ((r 18), .inl (cI, 2, .inl f18)), ((r 20), .inl (cI, 24, .inl f20)), ((r 23), .inl (cI, 2, .inl f23)), ((r 49), .inl (cI, 22, .inl f49))]) (fun (r9 : Int32) (u9 : Unit) => True) := by
  refine fun sz => k_enter (cc := cX7_thing) (maxL := 5) (ret := some (.int)) (Qc := fun A => va_Qi (fun (r9 : Int32) (u9 : Unit) => True) (fun u => k_B (dC, dI) vwCl (tyy cI cJ cZ cM) A ((fun (u9 : Unit) => [(h, .inr (7, oM r i j)), ((r 14), .inl (cI, 2, .inl f14)), ((r 15), .inl (cI, 20, .inl f15)), ((r 16), .inl (cI, 20, .inl f16)), ((r 17), .inl (cI, 20, .inl f17)), ((r 18), .inl (cI, 2, .inl f18)), ((r 20), .inl (cI, 24, .inl f20)), ((r 23), .inl (cI, 2, .inl f23)), ((r 49), .inl (cI, 22, .inl f49))]) u)) A) sz (by decide +kernel) rfl (Nat.le_of_ble_eq_true rfl) (fun p e s m args below meth c A ls H locs B hP hD hS hl => ?_)
  obtain ⟨hx, hb, hml, hown, hts, hr, hlk, hnm, hK, hA, hN, hC⟩ := id B
  have hown : s.vm.findClass RX7 = some m.cls := hown
  have hl : lv_has ls 5 [(0, .ref h), (1, .int x1), (2, .int x2)] := hl
  have w_0 : (Cond.fieldLink RX7 57 "WishSeaModel" "thingWorth" "[I").before args s = true := hts _ (List.mem_of_getElem? (i := 1) rfl)
  have w_1 : (Cond.fieldLink RX7 51 "WishSeaModel" "bank" "I").before args s = true := hts _ (List.mem_of_getElem? (i := 2) rfl)
  have w_2 : (Cond.fieldLink RX7 60 "WishSeaModel" "thingRhyme" "[I").before args s = true := hts _ (List.mem_of_getElem? (i := 3) rfl)
  have w_3 : (Cond.fieldLink RX7 63 "WishSeaModel" "thingBrief" "[I").before args s = true := hts _ (List.mem_of_getElem? (i := 4) rfl)
  have w_4 : (Cond.fieldLink RX7 162 "WishSeaModel" "hadOf" "[I").before args s = true := hts _ (List.mem_of_getElem? (i := 5) rfl)
  have w_5 : (Cond.fieldLink RX7 81 "WishSeaModel" "firstOnes" "[I").before args s = true := hts _ (List.mem_of_getElem? (i := 6) rfl)
  have w_6 : (Cond.fieldLink RX7 66 "WishSeaModel" "wishes" "[I").before args s = true := hts _ (List.mem_of_getElem? (i := 7) rfl)
  have hinX7 : ∀ w ∈ u_ws RX7 TX7 92, w ∈ wsX7_thing := fun _ h => List.mem_cons_of_mem _ (List.mem_append_right _ h)
  refine lv_aload_n hx hb dX7_thing_0 rfl (lv_at hl 0 rfl) ?_
  refine lv_iload_n hx hb dX7_thing_1 rfl (lv_at hl 1 rfl) ?_
  refine k_ci (wc := [(h, .inr (7, oM r i j)), ((r 14), .inl (cI, 2, .inl f14))]) (wr := [((r 15), .inl (cI, 20, .inl f15)), ((r 16), .inl (cI, 20, .inl f16)), ((r 17), .inl (cI, 20, .inl f17)), ((r 18), .inl (cI, 2, .inl f18)), ((r 20), .inl (cI, 24, .inl f20)), ((r 23), .inl (cI, 2, .inl f23)), ((r 49), .inl (cI, 22, .inl f49))]) (fun hPc hDc hFc => va_runV (As := [.int x1]) (rest := []) ⟨hx, hb, hml, hown, hts⟩ (s_X7_isThing_v0 l dC dI cI cJ cZ cM h r i j x1 f14 hI hf14 H.size) (cwV 1 hts gX7_thing_X7_isThing rfl rfl rfl (by decide +kernel) ⟨(Nat.le_of_ble_eq_true rfl), (Nat.le_of_ble_eq_true rfl)⟩) (k_pV hPc hDc hK hN hC hS hFc hP (q0 := 0) (ci := 7) rfl rfl) rfl rfl hl.1 rfl (lv_room (Nat.le_of_ble_eq_true rfl)) dX7_thing_2 ⟨(Nat.le_of_ble_eq_true rfl), (Nat.le_of_ble_eq_true rfl)⟩) hP hD hS hA [0, 1] [2, 3, 4, 5, 6, 7, 8] rfl rfl rfl rfl (by decide) (fun _ => rfl) 0 0 rfl rfl (fun r_2 u_2 H locs hw hP hD hS => ?_)
  obtain ⟨g_2_0, g_2_1⟩ := hw
  have hP : va_P (dC, dI) vwCl [((r 15), .inl (cI, 20, .inl f15)), ((r 16), .inl (cI, 20, .inl f16)), ((r 17), .inl (cI, 20, .inl f17)), ((r 18), .inl (cI, 2, .inl f18)), ((r 20), .inl (cI, 24, .inl f20)), ((r 23), .inl (cI, 2, .inl f23)), ((r 49), .inl (cI, 22, .inl f49)), (h, .inr (7, oM r i j)), ((r 14), .inl (cI, 2, .inl f14))] H := hP
  have hD : va_D A [((r 15), .inl (cI, 20, .inl f15)), ((r 16), .inl (cI, 20, .inl f16)), ((r 17), .inl (cI, 20, .inl f17)), ((r 18), .inl (cI, 2, .inl f18)), ((r 20), .inl (cI, 24, .inl f20)), ((r 23), .inl (cI, 2, .inl f23)), ((r 49), .inl (cI, 22, .inl f49)), (h, .inr (7, oM r i j)), ((r 14), .inl (cI, 2, .inl f14))] := hD
  have g_2_1 : (r_2 = 0) ∨ ((0 ≤ x1) ∧ (x1 < (f14 (i 13).toNatClampNeg))) := g_2_1
  refine lv_if_ne (tgt := 10) hx hb dX7_thing_5 (by decide) (fun c_5 => ?_) (fun c_5 => ?_)
  · have c_5 : ¬ r_2 = 0 := c_5
    have f_10_1 : iR r_2 1 1 := iR_neL c_5 g_2_0 (iR_c (n := 0) (a := 0) (b := 0) (by decide +kernel) (by decide +kernel)) (by decide +kernel)
    obtain ⟨d_5_1_0, d_5_1_1⟩ := g_2_1.resolve_left c_5
    have f_10_2 : iR x1 0 2147483647 := iR_leR d_5_1_0 (iR_c (n := 0) (a := 0) (b := 0) (by decide +kernel) (by decide +kernel)) (iR_top _) (by decide +kernel)
    have f_10_3 : iR x1 0 9 := iR_ltL d_5_1_1 f_10_2 (show iR (f14 (i 13).toNatClampNeg) 0 10 from hf14 _) (by decide +kernel)
    have f_10_4 : iR (f14 (i 13).toNatClampNeg) 1 10 := iR_ltR d_5_1_1 f_10_2 (show iR (f14 (i 13).toNatClampNeg) 0 10 from hf14 _) (by decide +kernel)
    refine lv_iconst (v := 0) hx hb dX7_thing_10 (by decide +kernel) ?_
    refine lv_istore_n (lv' := [(3, .int 0), (0, .ref h), (1, .int x1), (2, .int x2)]) hx hb dX7_thing_11 rfl hl (by decide) rfl (fun ls hl => ?_)
    refine lv_iload_n hx hb dX7_thing_12 rfl (lv_at hl 3 rfl) ?_
    rcases (show x2.toInt = 0 ∨ x2.toInt = 1 ∨ x2.toInt = 2 ∨ x2.toInt = 3 ∨ x2.toInt = 4 ∨ x2.toInt = 5 ∨ (¬ x2.toInt = 0 ∧ ¬ x2.toInt = 1 ∧ ¬ x2.toInt = 2 ∧ ¬ x2.toInt = 3 ∧ ¬ x2.toInt = 4 ∧ ¬ x2.toInt = 5) by omega) with c_13 | c_13 | c_13 | c_13 | c_13 | c_13 | c_13
    · have f_52_5 : iR x2 0 0 := iR_c c_13 (by decide +kernel)
      refine lv_tableIn (off := 39) (tgt := 52) hx hb dX7_thing_13 (by rw [c_13]; decide) (by rw [c_13]; decide) (by rw [c_13]; decide +kernel) (by decide +kernel) ?_
      refine lv_aload_n hx hb dX7_thing_52 rfl (lv_at hl 1 rfl) ?_
      refine k_get (D := (dC, dI)) (ci := 7) (v := .ref (r 15)) (C := RX7) (T := TX7) (N := 92) hx hb hts hinX7 hown hK hP 7 rfl rfl 15 (by decide) w_0 rfl rfl dX7_thing_53 ?_
      refine lv_bipush (v := 10) hx hb dX7_thing_56 (by decide +kernel) ?_
      refine lv_aload_n hx hb dX7_thing_58 rfl (lv_at hl 1 rfl) ?_
      have f_59_6 : iR (i 13) 0 1 := hI 13
      refine k_get (D := (dC, dI)) (ci := 7) (v := .int (i 13)) (C := RX7) (T := TX7) (N := 92) hx hb hts hinX7 hown hK hP 7 rfl rfl 13 (by decide) w_1 rfl rfl dX7_thing_59 ?_
      refine lv_imul hx hb dX7_thing_62 ?_
      refine lv_topi (fun y_62 ey_62 => ?_)
      have f_62_7 : iR y_62 0 10 := iR_mul ey_62 (iR_c (n := 10) (a := 10) (b := 10) (by decide +kernel) (by decide +kernel)) f_59_6 (by decide +kernel)
      refine lv_iload_n hx hb dX7_thing_63 rfl (lv_at hl 2 rfl) ?_
      refine lv_iadd hx hb dX7_thing_64 ?_
      refine lv_topi (fun y_64 ey_64 => ?_)
      have f_64_8 : iR y_64 0 19 := iR_add ey_64 f_62_7 f_10_3 (by decide +kernel)
      refine va_iald hx hb hK hP 0 0 rfl rfl (iR_vp f_64_8 (by decide +kernel)) dX7_thing_65 ?_
      exact k_ri B hP hD hS dX7_thing_66 () [7, 8, 0, 1, 2, 3, 4, 5, 6] rfl rfl rfl (Nat.le_of_ble_eq_true rfl) (Nat.le_of_ble_eq_true rfl) trivial
    · have f_67_5 : iR x2 1 1 := iR_c c_13 (by decide +kernel)
      refine lv_tableIn (off := 54) (tgt := 67) hx hb dX7_thing_13 (by rw [c_13]; decide) (by rw [c_13]; decide) (by rw [c_13]; decide +kernel) (by decide +kernel) ?_
      refine lv_aload_n hx hb dX7_thing_67 rfl (lv_at hl 1 rfl) ?_
      refine k_get (D := (dC, dI)) (ci := 7) (v := .ref (r 16)) (C := RX7) (T := TX7) (N := 92) hx hb hts hinX7 hown hK hP 7 rfl rfl 16 (by decide) w_2 rfl rfl dX7_thing_68 ?_
      refine lv_bipush (v := 10) hx hb dX7_thing_71 (by decide +kernel) ?_
      refine lv_aload_n hx hb dX7_thing_73 rfl (lv_at hl 1 rfl) ?_
      have f_74_6 : iR (i 13) 0 1 := hI 13
      refine k_get (D := (dC, dI)) (ci := 7) (v := .int (i 13)) (C := RX7) (T := TX7) (N := 92) hx hb hts hinX7 hown hK hP 7 rfl rfl 13 (by decide) w_1 rfl rfl dX7_thing_74 ?_
      refine lv_imul hx hb dX7_thing_77 ?_
      refine lv_topi (fun y_77 ey_77 => ?_)
      have f_77_7 : iR y_77 0 10 := iR_mul ey_77 (iR_c (n := 10) (a := 10) (b := 10) (by decide +kernel) (by decide +kernel)) f_74_6 (by decide +kernel)
      refine lv_iload_n hx hb dX7_thing_78 rfl (lv_at hl 2 rfl) ?_
      refine lv_iadd hx hb dX7_thing_79 ?_
      refine lv_topi (fun y_79 ey_79 => ?_)
      have f_79_8 : iR y_79 0 19 := iR_add ey_79 f_77_7 f_10_3 (by decide +kernel)
      refine va_iald hx hb hK hP 1 0 rfl rfl (iR_vp f_79_8 (by decide +kernel)) dX7_thing_80 ?_
      exact k_ri B hP hD hS dX7_thing_81 () [7, 8, 0, 1, 2, 3, 4, 5, 6] rfl rfl rfl (Nat.le_of_ble_eq_true rfl) (Nat.le_of_ble_eq_true rfl) trivial
    · have f_82_5 : iR x2 2 2 := iR_c c_13 (by decide +kernel)
      refine lv_tableIn (off := 69) (tgt := 82) hx hb dX7_thing_13 (by rw [c_13]; decide) (by rw [c_13]; decide) (by rw [c_13]; decide +kernel) (by decide +kernel) ?_
      refine lv_aload_n hx hb dX7_thing_82 rfl (lv_at hl 1 rfl) ?_
      refine k_get (D := (dC, dI)) (ci := 7) (v := .ref (r 17)) (C := RX7) (T := TX7) (N := 92) hx hb hts hinX7 hown hK hP 7 rfl rfl 17 (by decide) w_3 rfl rfl dX7_thing_83 ?_
      refine lv_bipush (v := 10) hx hb dX7_thing_86 (by decide +kernel) ?_
      refine lv_aload_n hx hb dX7_thing_88 rfl (lv_at hl 1 rfl) ?_
      have f_89_6 : iR (i 13) 0 1 := hI 13
      refine k_get (D := (dC, dI)) (ci := 7) (v := .int (i 13)) (C := RX7) (T := TX7) (N := 92) hx hb hts hinX7 hown hK hP 7 rfl rfl 13 (by decide) w_1 rfl rfl dX7_thing_89 ?_
      refine lv_imul hx hb dX7_thing_92 ?_
      refine lv_topi (fun y_92 ey_92 => ?_)
      have f_92_7 : iR y_92 0 10 := iR_mul ey_92 (iR_c (n := 10) (a := 10) (b := 10) (by decide +kernel) (by decide +kernel)) f_89_6 (by decide +kernel)
      refine lv_iload_n hx hb dX7_thing_93 rfl (lv_at hl 2 rfl) ?_
      refine lv_iadd hx hb dX7_thing_94 ?_
      refine lv_topi (fun y_94 ey_94 => ?_)
      have f_94_8 : iR y_94 0 19 := iR_add ey_94 f_92_7 f_10_3 (by decide +kernel)
      refine va_iald hx hb hK hP 2 0 rfl rfl (iR_vp f_94_8 (by decide +kernel)) dX7_thing_95 ?_
      have f_95_9 : iR (f17 y_94.toNatClampNeg) 0 1 := hf17 _
      exact k_ri B hP hD hS dX7_thing_96 () [7, 8, 0, 1, 2, 3, 4, 5, 6] rfl rfl rfl (Nat.le_of_ble_eq_true rfl) (Nat.le_of_ble_eq_true rfl) trivial
    · have f_97_5 : iR x2 3 3 := iR_c c_13 (by decide +kernel)
      refine lv_tableIn (off := 84) (tgt := 97) hx hb dX7_thing_13 (by rw [c_13]; decide) (by rw [c_13]; decide) (by rw [c_13]; decide +kernel) (by decide +kernel) ?_
      refine lv_aload_n hx hb dX7_thing_97 rfl (lv_at hl 1 rfl) ?_
      refine k_get (D := (dC, dI)) (ci := 7) (v := .ref (r 49)) (C := RX7) (T := TX7) (N := 92) hx hb hts hinX7 hown hK hP 7 rfl rfl 49 (by decide) w_4 rfl rfl dX7_thing_98 ?_
      refine lv_iconst (v := 0) hx hb dX7_thing_101 (by decide +kernel) ?_
      refine k_iald (v := (f49 0)) hx hb hK hP 6 0 0 rfl rfl rfl (Nat.le_of_ble_eq_true rfl) (Nat.le_of_ble_eq_true rfl) rfl dX7_thing_102 ?_
      have f_102_6 : iR (f49 0) 0 1023 := hf49 _
      refine lv_iload_n hx hb dX7_thing_103 rfl (lv_at hl 2 rfl) ?_
      refine k_ci (wc := []) (wr := [((r 15), .inl (cI, 20, .inl f15)), ((r 16), .inl (cI, 20, .inl f16)), ((r 17), .inl (cI, 20, .inl f17)), ((r 18), .inl (cI, 2, .inl f18)), ((r 20), .inl (cI, 24, .inl f20)), ((r 23), .inl (cI, 2, .inl f23)), ((r 49), .inl (cI, 22, .inl f49)), (h, .inr (7, oM r i j)), ((r 14), .inl (cI, 2, .inl f14))]) (fun hPc hDc hFc => va_runS (As := [.int (f49 0), .int x1]) (rest := []) ⟨hx, hb, hml, hown, hts⟩ (s_X7_holds_v0 l dC dI cI cJ cZ cM (f49 0) x1 H.size) (va_cwS 2 hts gX7_thing_X7_holds rfl rfl rfl (by decide +kernel) ⟨(Nat.le_of_ble_eq_true rfl), (Nat.le_of_ble_eq_true rfl)⟩) (k_pS hPc hDc hK hN hC hS hFc) rfl rfl hl.1 rfl (lv_room (Nat.le_of_ble_eq_true rfl)) dX7_thing_104 ⟨(Nat.le_of_ble_eq_true rfl), (Nat.le_of_ble_eq_true rfl)⟩) hP hD hS hA [] [0, 1, 2, 3, 4, 5, 6, 7, 8] rfl rfl rfl rfl (by decide) (fun _ => rfl) 0 0 rfl rfl (fun r_104 u_104 H locs hw hP hD hS => ?_)
      have g_104_0 := hw
      have hP : va_P (dC, dI) vwCl [((r 15), .inl (cI, 20, .inl f15)), ((r 16), .inl (cI, 20, .inl f16)), ((r 17), .inl (cI, 20, .inl f17)), ((r 18), .inl (cI, 2, .inl f18)), ((r 20), .inl (cI, 24, .inl f20)), ((r 23), .inl (cI, 2, .inl f23)), ((r 49), .inl (cI, 22, .inl f49)), (h, .inr (7, oM r i j)), ((r 14), .inl (cI, 2, .inl f14))] H := hP
      have hD : va_D A [((r 15), .inl (cI, 20, .inl f15)), ((r 16), .inl (cI, 20, .inl f16)), ((r 17), .inl (cI, 20, .inl f17)), ((r 18), .inl (cI, 2, .inl f18)), ((r 20), .inl (cI, 24, .inl f20)), ((r 23), .inl (cI, 2, .inl f23)), ((r 49), .inl (cI, 22, .inl f49)), (h, .inr (7, oM r i j)), ((r 14), .inl (cI, 2, .inl f14))] := hD
      refine lv_if_eq (tgt := 114) hx hb dX7_thing_107 (by decide) (fun c_107 => ?_) (fun c_107 => ?_)
      · have c_107 : r_104 = 0 := c_107
        have f_114_7 : iR r_104 0 0 := iR_eqL c_107 g_104_0 (iR_c (n := 0) (a := 0) (b := 0) (by decide +kernel) (by decide +kernel)) (by decide +kernel)
        refine lv_iconst (v := 0) hx hb dX7_thing_114 (by decide +kernel) ?_
        exact k_ri B hP hD hS dX7_thing_115 () [7, 8, 0, 1, 2, 3, 4, 5, 6] rfl rfl rfl (Nat.le_of_ble_eq_true rfl) (Nat.le_of_ble_eq_true rfl) trivial
      · have c_107 : ¬ r_104 = 0 := c_107
        have f_110_7 : iR r_104 1 1 := iR_neL c_107 g_104_0 (iR_c (n := 0) (a := 0) (b := 0) (by decide +kernel) (by decide +kernel)) (by decide +kernel)
        refine lv_iconst (v := 1) hx hb dX7_thing_110 (by decide +kernel) ?_
        refine lv_goto (tgt := 115) hx hb dX7_thing_111 (by decide) ?_
        exact k_ri B hP hD hS dX7_thing_115 () [7, 8, 0, 1, 2, 3, 4, 5, 6] rfl rfl rfl (Nat.le_of_ble_eq_true rfl) (Nat.le_of_ble_eq_true rfl) trivial
    · have f_116_5 : iR x2 4 4 := iR_c c_13 (by decide +kernel)
      refine lv_tableIn (off := 103) (tgt := 116) hx hb dX7_thing_13 (by rw [c_13]; decide) (by rw [c_13]; decide) (by rw [c_13]; decide +kernel) (by decide +kernel) ?_
      refine lv_aload_n hx hb dX7_thing_116 rfl (lv_at hl 1 rfl) ?_
      refine k_get (D := (dC, dI)) (ci := 7) (v := .ref (r 23)) (C := RX7) (T := TX7) (N := 92) hx hb hts hinX7 hown hK hP 7 rfl rfl 23 (by decide) w_5 rfl rfl dX7_thing_117 ?_
      refine lv_aload_n hx hb dX7_thing_120 rfl (lv_at hl 1 rfl) ?_
      have f_121_6 : iR (i 13) 0 1 := hI 13
      refine k_get (D := (dC, dI)) (ci := 7) (v := .int (i 13)) (C := RX7) (T := TX7) (N := 92) hx hb hts hinX7 hown hK hP 7 rfl rfl 13 (by decide) w_1 rfl rfl dX7_thing_121 ?_
      refine va_iald hx hb hK hP 5 0 rfl rfl (iR_vp f_121_6 (by decide +kernel)) dX7_thing_124 ?_
      have f_124_7 : iR (f23 (i 13).toNatClampNeg) 0 1023 := hf23 _
      refine lv_iload_n hx hb dX7_thing_125 rfl (lv_at hl 2 rfl) ?_
      refine k_ci (wc := []) (wr := [((r 15), .inl (cI, 20, .inl f15)), ((r 16), .inl (cI, 20, .inl f16)), ((r 17), .inl (cI, 20, .inl f17)), ((r 18), .inl (cI, 2, .inl f18)), ((r 20), .inl (cI, 24, .inl f20)), ((r 23), .inl (cI, 2, .inl f23)), ((r 49), .inl (cI, 22, .inl f49)), (h, .inr (7, oM r i j)), ((r 14), .inl (cI, 2, .inl f14))]) (fun hPc hDc hFc => va_runS (As := [.int (f23 (i 13).toNatClampNeg), .int x1]) (rest := []) ⟨hx, hb, hml, hown, hts⟩ (s_X7_holds_v0 l dC dI cI cJ cZ cM (f23 (i 13).toNatClampNeg) x1 H.size) (va_cwS 2 hts gX7_thing_X7_holds rfl rfl rfl (by decide +kernel) ⟨(Nat.le_of_ble_eq_true rfl), (Nat.le_of_ble_eq_true rfl)⟩) (k_pS hPc hDc hK hN hC hS hFc) rfl rfl hl.1 rfl (lv_room (Nat.le_of_ble_eq_true rfl)) dX7_thing_126 ⟨(Nat.le_of_ble_eq_true rfl), (Nat.le_of_ble_eq_true rfl)⟩) hP hD hS hA [] [0, 1, 2, 3, 4, 5, 6, 7, 8] rfl rfl rfl rfl (by decide) (fun _ => rfl) 0 0 rfl rfl (fun r_126 u_126 H locs hw hP hD hS => ?_)
      have g_126_0 := hw
      have hP : va_P (dC, dI) vwCl [((r 15), .inl (cI, 20, .inl f15)), ((r 16), .inl (cI, 20, .inl f16)), ((r 17), .inl (cI, 20, .inl f17)), ((r 18), .inl (cI, 2, .inl f18)), ((r 20), .inl (cI, 24, .inl f20)), ((r 23), .inl (cI, 2, .inl f23)), ((r 49), .inl (cI, 22, .inl f49)), (h, .inr (7, oM r i j)), ((r 14), .inl (cI, 2, .inl f14))] H := hP
      have hD : va_D A [((r 15), .inl (cI, 20, .inl f15)), ((r 16), .inl (cI, 20, .inl f16)), ((r 17), .inl (cI, 20, .inl f17)), ((r 18), .inl (cI, 2, .inl f18)), ((r 20), .inl (cI, 24, .inl f20)), ((r 23), .inl (cI, 2, .inl f23)), ((r 49), .inl (cI, 22, .inl f49)), (h, .inr (7, oM r i j)), ((r 14), .inl (cI, 2, .inl f14))] := hD
      refine lv_if_eq (tgt := 136) hx hb dX7_thing_129 (by decide) (fun c_129 => ?_) (fun c_129 => ?_)
      · have c_129 : r_126 = 0 := c_129
        have f_136_8 : iR r_126 0 0 := iR_eqL c_129 g_126_0 (iR_c (n := 0) (a := 0) (b := 0) (by decide +kernel) (by decide +kernel)) (by decide +kernel)
        refine lv_iconst (v := 0) hx hb dX7_thing_136 (by decide +kernel) ?_
        exact k_ri B hP hD hS dX7_thing_137 () [7, 8, 0, 1, 2, 3, 4, 5, 6] rfl rfl rfl (Nat.le_of_ble_eq_true rfl) (Nat.le_of_ble_eq_true rfl) trivial
      · have c_129 : ¬ r_126 = 0 := c_129
        have f_132_8 : iR r_126 1 1 := iR_neL c_129 g_126_0 (iR_c (n := 0) (a := 0) (b := 0) (by decide +kernel) (by decide +kernel)) (by decide +kernel)
        refine lv_iconst (v := 1) hx hb dX7_thing_132 (by decide +kernel) ?_
        refine lv_goto (tgt := 137) hx hb dX7_thing_133 (by decide) ?_
        exact k_ri B hP hD hS dX7_thing_137 () [7, 8, 0, 1, 2, 3, 4, 5, 6] rfl rfl rfl (Nat.le_of_ble_eq_true rfl) (Nat.le_of_ble_eq_true rfl) trivial
    · have f_138_5 : iR x2 5 5 := iR_c c_13 (by decide +kernel)
      refine lv_tableIn (off := 125) (tgt := 138) hx hb dX7_thing_13 (by rw [c_13]; decide) (by rw [c_13]; decide) (by rw [c_13]; decide +kernel) (by decide +kernel) ?_
      refine lv_iconst (v := 0) hx hb dX7_thing_138 (by decide +kernel) ?_
      have J_141 : ∀ (n_141 : Nat) (j141_L3 : Int32) (j141_L4 : Int32) (hj141_L4 : iR j141_L4 0 12) (hm_141 : (12 - j141_L4.toInt).toNat < n_141) (H : Heap) (locs : List Loc) (ls : Array Slot), va_P (dC, dI) vwCl [(h, .inr (7, oM r i j)), ((r 14), .inl (cI, 2, .inl f14)), ((r 15), .inl (cI, 20, .inl f15)), ((r 16), .inl (cI, 20, .inl f16)), ((r 17), .inl (cI, 20, .inl f17)), ((r 18), .inl (cI, 2, .inl f18)), ((r 20), .inl (cI, 24, .inl f20)), ((r 23), .inl (cI, 2, .inl f23)), ((r 49), .inl (cI, 22, .inl f49))] H → va_D A [(h, .inr (7, oM r i j)), ((r 14), .inl (cI, 2, .inl f14)), ((r 15), .inl (cI, 20, .inl f15)), ((r 16), .inl (cI, 20, .inl f16)), ((r 17), .inl (cI, 20, .inl f17)), ((r 18), .inl (cI, 2, .inl f18)), ((r 20), .inl (cI, 24, .inl f20)), ((r 23), .inl (cI, 2, .inl f23)), ((r 49), .inl (cI, 22, .inl f49))] → va_S A s.heap H locs → lv_has ls 5 [(0, .ref h), (1, .int x1), (3, .int j141_L3), (4, .int j141_L4)] → W p l e ({ frames := 2, cells := 0, slots := 0, locals := 61 }) s m args below meth c H locs 0 0 (MQ below (va_Qi (fun (r9 : Int32) (u9 : Unit) => True) (fun u => k_B (dC, dI) vwCl (tyy cI cJ cZ cM) A ((fun (u9 : Unit) => [(h, .inr (7, oM r i j)), ((r 14), .inl (cI, 2, .inl f14)), ((r 15), .inl (cI, 20, .inl f15)), ((r 16), .inl (cI, 20, .inl f16)), ((r 17), .inl (cI, 20, .inl f17)), ((r 18), .inl (cI, 2, .inl f18)), ((r 20), .inl (cI, 24, .inl f20)), ((r 23), .inl (cI, 2, .inl f23)), ((r 49), .inl (cI, 22, .inl f49))]) u)) A) args s 0 0 A) (F0 m 141 ls []) := by
        intro n_141
        induction n_141 with
        | zero => intro j141_L3 j141_L4 hj141_L4 hm_141; exact absurd hm_141 (Nat.not_lt_zero _)
        | succ n_141 ih_141 =>
          intro j141_L3 j141_L4 hj141_L4 hm_141 H locs ls hP hD hS hl
          refine lv_iload hx hb dX7_thing_141 (lv_at hl 3 rfl) ?_
          refine lv_aload_n hx hb dX7_thing_143 rfl (lv_at hl 0 rfl) ?_
          refine k_get (D := (dC, dI)) (ci := 7) (v := .ref (r 18)) (C := RX7) (T := TX7) (N := 92) hx hb hts hinX7 hown hK hP 0 rfl rfl 18 (by decide) w_6 rfl rfl dX7_thing_144 ?_
          refine lv_aload_n hx hb dX7_thing_147 rfl (lv_at hl 0 rfl) ?_
          have f_148_1 : iR (i 13) 0 1 := hI 13
          refine k_get (D := (dC, dI)) (ci := 7) (v := .int (i 13)) (C := RX7) (T := TX7) (N := 92) hx hb hts hinX7 hown hK hP 0 rfl rfl 13 (by decide) w_1 rfl rfl dX7_thing_148 ?_
          refine va_iald hx hb hK hP 5 0 rfl rfl (iR_vp f_148_1 (by decide +kernel)) dX7_thing_151 ?_
          have f_151_2 : iR (f18 (i 13).toNatClampNeg) 0 12 := hf18 _
          refine lv_icmp_ge (tgt := 179) hx hb dX7_thing_152 (by decide) (fun c_152 => ?_) (fun c_152 => ?_)
          · have c_152 : (f18 (i 13).toNatClampNeg) ≤ j141_L4 := c_152
            refine lv_iload_n hx hb dX7_thing_179 rfl (lv_at hl 2 rfl) ?_
            exact k_ri B hP hD hS dX7_thing_180 () [0, 1, 2, 3, 4, 5, 6, 7, 8] rfl rfl rfl (Nat.le_of_ble_eq_true rfl) (Nat.le_of_ble_eq_true rfl) trivial
          · have c_152 : j141_L4 < (f18 (i 13).toNatClampNeg) := i_nle c_152
            have f_155_3 : iR j141_L4 0 11 := iR_ltL c_152 hj141_L4 f_151_2 (by decide +kernel)
            have f_155_4 : iR (f18 (i 13).toNatClampNeg) 1 12 := iR_ltR c_152 hj141_L4 f_151_2 (by decide +kernel)
            refine lv_iload_n hx hb dX7_thing_155 rfl (lv_at hl 2 rfl) ?_
            refine lv_aload_n hx hb dX7_thing_156 rfl (lv_at hl 0 rfl) ?_
            refine lv_iload hx hb dX7_thing_157 (lv_at hl 3 rfl) ?_
            refine k_ci (wc := [(h, .inr (7, oM r i j)), ((r 20), .inl (cI, 24, .inl f20))]) (wr := [((r 14), .inl (cI, 2, .inl f14)), ((r 15), .inl (cI, 20, .inl f15)), ((r 16), .inl (cI, 20, .inl f16)), ((r 17), .inl (cI, 20, .inl f17)), ((r 18), .inl (cI, 2, .inl f18)), ((r 23), .inl (cI, 2, .inl f23)), ((r 49), .inl (cI, 22, .inl f49))]) (fun hPc hDc hFc => va_runV (As := [.int j141_L4]) (rest := [.int j141_L3]) ⟨hx, hb, hml, hown, hts⟩ (s_X7_givesOf_v0 l dC dI cI cJ cZ cM h r i j j141_L4 f20 f_155_3 hI hf20 H.size) (cwV 1 hts gX7_thing_X7_givesOf rfl rfl rfl (by decide +kernel) ⟨(Nat.le_of_ble_eq_true rfl), (Nat.le_of_ble_eq_true rfl)⟩) (k_pV hPc hDc hK hN hC hS hFc hP (q0 := 0) (ci := 7) rfl rfl) rfl rfl hl.1 rfl (lv_room (Nat.le_of_ble_eq_true rfl)) dX7_thing_159 ⟨(Nat.le_of_ble_eq_true rfl), (Nat.le_of_ble_eq_true rfl)⟩) hP hD hS hA [0, 6] [1, 2, 3, 4, 5, 7, 8] rfl rfl rfl rfl (by decide) (fun _ => rfl) 0 0 rfl rfl (fun r_159 u_159 H locs hw hP hD hS => ?_)
            have g_159_0 := hw
            have hP : va_P (dC, dI) vwCl [((r 14), .inl (cI, 2, .inl f14)), ((r 15), .inl (cI, 20, .inl f15)), ((r 16), .inl (cI, 20, .inl f16)), ((r 17), .inl (cI, 20, .inl f17)), ((r 18), .inl (cI, 2, .inl f18)), ((r 23), .inl (cI, 2, .inl f23)), ((r 49), .inl (cI, 22, .inl f49)), (h, .inr (7, oM r i j)), ((r 20), .inl (cI, 24, .inl f20))] H := hP
            have hD : va_D A [((r 14), .inl (cI, 2, .inl f14)), ((r 15), .inl (cI, 20, .inl f15)), ((r 16), .inl (cI, 20, .inl f16)), ((r 17), .inl (cI, 20, .inl f17)), ((r 18), .inl (cI, 2, .inl f18)), ((r 23), .inl (cI, 2, .inl f23)), ((r 49), .inl (cI, 22, .inl f49)), (h, .inr (7, oM r i j)), ((r 20), .inl (cI, 24, .inl f20))] := hD
            refine lv_iload_n hx hb dX7_thing_162 rfl (lv_at hl 1 rfl) ?_
            have J_171 : ∀ (j171_S0 : Int32) (hj171_S0 : iR j171_S0 0 1) (H : Heap) (locs : List Loc) (ls : Array Slot), va_P (dC, dI) vwCl [(h, .inr (7, oM r i j)), ((r 14), .inl (cI, 2, .inl f14)), ((r 15), .inl (cI, 20, .inl f15)), ((r 16), .inl (cI, 20, .inl f16)), ((r 17), .inl (cI, 20, .inl f17)), ((r 18), .inl (cI, 2, .inl f18)), ((r 20), .inl (cI, 24, .inl f20)), ((r 23), .inl (cI, 2, .inl f23)), ((r 49), .inl (cI, 22, .inl f49))] H → va_D A [(h, .inr (7, oM r i j)), ((r 14), .inl (cI, 2, .inl f14)), ((r 15), .inl (cI, 20, .inl f15)), ((r 16), .inl (cI, 20, .inl f16)), ((r 17), .inl (cI, 20, .inl f17)), ((r 18), .inl (cI, 2, .inl f18)), ((r 20), .inl (cI, 24, .inl f20)), ((r 23), .inl (cI, 2, .inl f23)), ((r 49), .inl (cI, 22, .inl f49))] → va_S A s.heap H locs → lv_has ls 5 [(0, .ref h), (1, .int x1), (4, .int j141_L4)] → W p l e ({ frames := 2, cells := 0, slots := 0, locals := 61 }) s m args below meth c H locs 0 0 (MQ below (va_Qi (fun (r9 : Int32) (u9 : Unit) => True) (fun u => k_B (dC, dI) vwCl (tyy cI cJ cZ cM) A ((fun (u9 : Unit) => [(h, .inr (7, oM r i j)), ((r 14), .inl (cI, 2, .inl f14)), ((r 15), .inl (cI, 20, .inl f15)), ((r 16), .inl (cI, 20, .inl f16)), ((r 17), .inl (cI, 20, .inl f17)), ((r 18), .inl (cI, 2, .inl f18)), ((r 20), .inl (cI, 24, .inl f20)), ((r 23), .inl (cI, 2, .inl f23)), ((r 49), .inl (cI, 22, .inl f49))]) u)) A) args s 0 0 A) (F0 m 171 ls [.int j171_S0, .int j141_L3]) := by
              intro j171_S0 hj171_S0 H locs ls hP hD hS hl
              refine lv_iadd hx hb dX7_thing_171 ?_
              refine lv_topi (fun y_171 ey_171 => ?_)
              refine lv_istore_n (lv' := [(3, .int y_171), (0, .ref h), (1, .int x1), (4, .int j141_L4)]) hx hb dX7_thing_172 rfl hl (by decide) rfl (fun ls hl => ?_)
              obtain ⟨y_173, ey_173⟩ : ∃ y : Int32, y = j141_L4 + 1 := ⟨_, rfl⟩
              refine lv_iinc (v := y_173) (lv' := [(4, .int y_173), (3, .int y_171), (0, .ref h), (1, .int x1)]) hx hb dX7_thing_173 hl (k := 3) rfl ey_173.symm (by decide) rfl (fun ls hl => ?_)
              have f_173_1 : iR y_173 1 12 := iR_add ey_173 f_155_3 (iR_c (n := 1) (a := 1) (b := 1) (by decide +kernel) (by decide +kernel)) (by decide +kernel)
              refine lv_goto (tgt := 141) hx hb dX7_thing_176 (by decide) ?_
              exact ih_141 y_171 y_173 (iR_w f_173_1 (by decide +kernel)) (m_up (B := 12) hm_141 ey_173 f_155_3 (by decide +kernel)) H locs ls hP hD hS (lv_sub hl [2, 3, 1, 0] rfl)
            refine lv_icmp_ne (tgt := 170) hx hb dX7_thing_163 (by decide) (fun c_163 => ?_) (fun c_163 => ?_)
            · have c_163 : ¬ r_159 = x1 := c_163
              refine lv_iconst (v := 0) hx hb dX7_thing_170 (by decide +kernel) ?_
              exact J_171 0 (iR_c (n := 0) (a := 0) (b := 1) (by decide +kernel) (by decide +kernel)) H locs ls (hP.sub [7, 0, 1, 2, 3, 4, 8, 5, 6] rfl) (hD.sub [7, 0, 1, 2, 3, 4, 8, 5, 6] (by decide +kernel) rfl) hS (lv_sub hl [0, 1, 3] rfl)
            · have c_163 : r_159 = x1 := c_163
              refine lv_iconst (v := 1) hx hb dX7_thing_166 (by decide +kernel) ?_
              refine lv_goto (tgt := 171) hx hb dX7_thing_167 (by decide) ?_
              exact J_171 1 (iR_c (n := 1) (a := 0) (b := 1) (by decide +kernel) (by decide +kernel)) H locs ls (hP.sub [7, 0, 1, 2, 3, 4, 8, 5, 6] rfl) (hD.sub [7, 0, 1, 2, 3, 4, 8, 5, 6] (by decide +kernel) rfl) hS (lv_sub hl [0, 1, 3] rfl)
      refine lv_istore (lv' := [(4, .int 0), (3, .int 0), (0, .ref h), (1, .int x1), (2, .int x2)]) hx hb dX7_thing_139 hl (by decide) rfl (fun ls hl => ?_)
      exact J_141 _ 0 0 (iR_c (n := 0) (a := 0) (b := 12) (by decide +kernel) (by decide +kernel)) (Nat.lt_succ_self _) H locs ls (hP.sub [7, 8, 0, 1, 2, 3, 4, 5, 6] rfl) (hD.sub [7, 8, 0, 1, 2, 3, 4, 5, 6] (by decide +kernel) rfl) hS (lv_sub hl [2, 3, 1, 0] rfl)
    · refine lv_tableOut (tgt := 181) hx hb dX7_thing_13 (by omega) (by decide +kernel) ?_
      refine lv_iconst (v := (-1)) hx hb dX7_thing_181 (by decide +kernel) ?_
      exact k_ri B hP hD hS dX7_thing_182 () [7, 8, 0, 1, 2, 3, 4, 5, 6] rfl rfl rfl (Nat.le_of_ble_eq_true rfl) (Nat.le_of_ble_eq_true rfl) trivial
  · have c_5 : r_2 = 0 := c_5
    have f_8_1 : iR r_2 0 0 := iR_eqL c_5 g_2_0 (iR_c (n := 0) (a := 0) (b := 0) (by decide +kernel) (by decide +kernel)) (by decide +kernel)
    refine lv_iconst (v := (-1)) hx hb dX7_thing_8 (by decide +kernel) ?_
    exact k_ri B hP hD hS dX7_thing_9 () [7, 8, 0, 1, 2, 3, 4, 5, 6] rfl rfl rfl (Nat.le_of_ble_eq_true rfl) (Nat.le_of_ble_eq_true rfl) trivial
set_option maxHeartbeats 8000000 in
set_option maxRecDepth 100000 in
theorem s_X7_isWish_v0 (l : Launch) (dC : Nat → ClassId) (dI : Nat → Nat → Nat) (cI cJ cZ cM : ClassId) (h : Nat) (r : Nat → Nat) (i : Nat → Int32) (j : Nat → Int64) (x1 : Int32) (f18 : Nat → Int32) (hI : mR i) (hf18 : aR f18 0 12) : k_Mi l yX7_isWish wsX7_isWish ({ frames := 1, cells := 0, slots := 0, locals := 40 }) (dC, dI) vwCl (tyy cI cJ cZ cM) [(h, .inr (7, oM r i j)), ((r 18), .inl (cI, 2, .inl f18))] [.ref h, .int x1] 0 0 (fun (u9 : Unit) => [(h, .inr (7, oM r i j)), ((r 18), .inl (cI, 2, .inl f18))]) (fun (r9 : Int32) (u9 : Unit) => (iR r9 0 1) ∧ ((r9 = 0) ∨ ((0 ≤ x1) ∧ (x1 < (f18 (i 13).toNatClampNeg))))) := by
  refine fun sz => k_enter (cc := cX7_isWish) (maxL := 2) (ret := some (.boolean)) (Qc := fun A => va_Qi (fun (r9 : Int32) (u9 : Unit) => (iR r9 0 1) ∧ ((r9 = 0) ∨ ((0 ≤ x1) ∧ (x1 < (f18 (i 13).toNatClampNeg))))) (fun u => k_B (dC, dI) vwCl (tyy cI cJ cZ cM) A ((fun (u9 : Unit) => [(h, .inr (7, oM r i j)), ((r 18), .inl (cI, 2, .inl f18))]) u)) A) sz (by decide +kernel) rfl (Nat.le_of_ble_eq_true rfl) (fun p e s m args below meth c A ls H locs B hP hD hS hl => ?_)
  obtain ⟨hx, hb, hml, hown, hts, hr, hlk, hnm, hK, hA, hN, hC⟩ := id B
  have hown : s.vm.findClass RX7 = some m.cls := hown
  have hl : lv_has ls 2 [(0, .ref h), (1, .int x1)] := hl
  have w_0 : (Cond.fieldLink RX7 66 "WishSeaModel" "wishes" "[I").before args s = true := hts _ (List.mem_of_getElem? (i := 1) rfl)
  have w_1 : (Cond.fieldLink RX7 51 "WishSeaModel" "bank" "I").before args s = true := hts _ (List.mem_of_getElem? (i := 2) rfl)
  have hinX7 : ∀ w ∈ u_ws RX7 TX7 92, w ∈ wsX7_isWish := fun _ h => List.mem_cons_of_mem _ (List.mem_append_right _ h)
  refine lv_iload_n hx hb dX7_isWish_0 rfl (lv_at hl 1 rfl) ?_
  have J_21 : ∀   (H : Heap) (locs : List Loc) (ls : Array Slot), va_P (dC, dI) vwCl [(h, .inr (7, oM r i j)), ((r 18), .inl (cI, 2, .inl f18))] H → va_D A [(h, .inr (7, oM r i j)), ((r 18), .inl (cI, 2, .inl f18))] → va_S A s.heap H locs → lv_has ls 2 [] → W p l e ({ frames := 1, cells := 0, slots := 0, locals := 40 }) s m args below meth c H locs 0 0 (MQ below (va_Qi (fun (r9 : Int32) (u9 : Unit) => (iR r9 0 1) ∧ ((r9 = 0) ∨ ((0 ≤ x1) ∧ (x1 < (f18 (i 13).toNatClampNeg))))) (fun u => k_B (dC, dI) vwCl (tyy cI cJ cZ cM) A ((fun (u9 : Unit) => [(h, .inr (7, oM r i j)), ((r 18), .inl (cI, 2, .inl f18))]) u)) A) args s 0 0 A) (F0 m 21 ls []) := by
    intro   H locs ls hP hD hS hl
    refine lv_iconst (v := 0) hx hb dX7_isWish_21 (by decide +kernel) ?_
    exact k_ri B hP hD hS dX7_isWish_22 () [0, 1] rfl rfl rfl (Nat.le_of_ble_eq_true rfl) (Nat.le_of_ble_eq_true rfl) ⟨(show iR 0 0 1 from (iR_c (n := 0) (a := 0) (b := 1) (by decide +kernel) (by decide +kernel))), (show (0 = 0) ∨ ((0 ≤ x1) ∧ (x1 < (f18 (i 13).toNatClampNeg))) from (Or.inl rfl))⟩
  refine lv_if_lt (tgt := 21) hx hb dX7_isWish_1 (by decide) (fun c_1 => ?_) (fun c_1 => ?_)
  · have c_1 : x1 < 0 := c_1
    have f_21_1 : iR x1 (-2147483648) (-1) := iR_ltL c_1 (iR_top _) (iR_c (n := 0) (a := 0) (b := 0) (by decide +kernel) (by decide +kernel)) (by decide +kernel)
    exact J_21   H locs ls hP hD hS (lv_sub hl [] rfl)
  · have c_1 : 0 ≤ x1 := i_nlt c_1
    have f_4_1 : iR x1 0 2147483647 := iR_leR c_1 (iR_c (n := 0) (a := 0) (b := 0) (by decide +kernel) (by decide +kernel)) (iR_top _) (by decide +kernel)
    refine lv_iload_n hx hb dX7_isWish_4 rfl (lv_at hl 1 rfl) ?_
    refine lv_aload_n hx hb dX7_isWish_5 rfl (lv_at hl 0 rfl) ?_
    refine k_get (D := (dC, dI)) (ci := 7) (v := .ref (r 18)) (C := RX7) (T := TX7) (N := 92) hx hb hts hinX7 hown hK hP 0 rfl rfl 18 (by decide) w_0 rfl rfl dX7_isWish_6 ?_
    refine lv_aload_n hx hb dX7_isWish_9 rfl (lv_at hl 0 rfl) ?_
    have f_10_2 : iR (i 13) 0 1 := hI 13
    refine k_get (D := (dC, dI)) (ci := 7) (v := .int (i 13)) (C := RX7) (T := TX7) (N := 92) hx hb hts hinX7 hown hK hP 0 rfl rfl 13 (by decide) w_1 rfl rfl dX7_isWish_10 ?_
    refine va_iald hx hb hK hP 1 0 rfl rfl (iR_vp f_10_2 (by decide +kernel)) dX7_isWish_13 ?_
    have f_13_3 : iR (f18 (i 13).toNatClampNeg) 0 12 := hf18 _
    refine lv_icmp_ge (tgt := 21) hx hb dX7_isWish_14 (by decide) (fun c_14 => ?_) (fun c_14 => ?_)
    · have c_14 : (f18 (i 13).toNatClampNeg) ≤ x1 := c_14
      exact J_21   H locs ls hP hD hS (lv_sub hl [] rfl)
    · have c_14 : x1 < (f18 (i 13).toNatClampNeg) := i_nle c_14
      have f_17_4 : iR x1 0 11 := iR_ltL c_14 f_4_1 f_13_3 (by decide +kernel)
      have f_17_5 : iR (f18 (i 13).toNatClampNeg) 1 12 := iR_ltR c_14 f_4_1 f_13_3 (by decide +kernel)
      refine lv_iconst (v := 1) hx hb dX7_isWish_17 (by decide +kernel) ?_
      refine lv_goto (tgt := 22) hx hb dX7_isWish_18 (by decide) ?_
      exact k_ri B hP hD hS dX7_isWish_22 () [0, 1] rfl rfl rfl (Nat.le_of_ble_eq_true rfl) (Nat.le_of_ble_eq_true rfl) ⟨(show iR 1 0 1 from (iR_c (n := 1) (a := 0) (b := 1) (by decide +kernel) (by decide +kernel))), (show (1 = 0) ∨ ((0 ≤ x1) ∧ (x1 < (f18 (i 13).toNatClampNeg))) from (Or.inr ⟨c_1, c_14⟩))⟩
set_option maxHeartbeats 8000000 in
set_option maxRecDepth 100000 in
theorem s_X7_wordsOf_v0 (l : Launch) (dC : Nat → ClassId) (dI : Nat → Nat → Nat) (cI cJ cZ cM : ClassId) (h : Nat) (r : Nat → Nat) (i : Nat → Int32) (j : Nat → Int64) (x1 : Int32) (f19 : Nat → Int32) (hx1 : iR x1 0 11) (hI : mR i) : k_Mi l yX7_wordsOf wsX7_wordsOf ({ frames := 1, cells := 0, slots := 0, locals := 40 }) (dC, dI) vwCl (tyy cI cJ cZ cM) [(h, .inr (7, oM r i j)), ((r 19), .inl (cI, 24, .inl f19))] [.ref h, .int x1] 0 0 (fun (u9 : Unit) => [(h, .inr (7, oM r i j)), ((r 19), .inl (cI, 24, .inl f19))]) (fun (r9 : Int32) (u9 : Unit) => True) := by
  refine fun sz => k_enter (cc := cX7_wordsOf) (maxL := 2) (ret := some (.int)) (Qc := fun A => va_Qi (fun (r9 : Int32) (u9 : Unit) => True) (fun u => k_B (dC, dI) vwCl (tyy cI cJ cZ cM) A ((fun (u9 : Unit) => [(h, .inr (7, oM r i j)), ((r 19), .inl (cI, 24, .inl f19))]) u)) A) sz (by decide +kernel) rfl (Nat.le_of_ble_eq_true rfl) (fun p e s m args below meth c A ls H locs B hP hD hS hl => ?_)
  obtain ⟨hx, hb, hml, hown, hts, hr, hlk, hnm, hK, hA, hN, hC⟩ := id B
  have hown : s.vm.findClass RX7 = some m.cls := hown
  have hl : lv_has ls 2 [(0, .ref h), (1, .int x1)] := hl
  have w_0 : (Cond.fieldLink RX7 69 "WishSeaModel" "wishWords" "[I").before args s = true := hts _ (List.mem_of_getElem? (i := 1) rfl)
  have w_1 : (Cond.fieldLink RX7 51 "WishSeaModel" "bank" "I").before args s = true := hts _ (List.mem_of_getElem? (i := 2) rfl)
  have hinX7 : ∀ w ∈ u_ws RX7 TX7 92, w ∈ wsX7_wordsOf := fun _ h => List.mem_cons_of_mem _ (List.mem_append_right _ h)
  refine lv_aload_n hx hb dX7_wordsOf_0 rfl (lv_at hl 0 rfl) ?_
  refine k_get (D := (dC, dI)) (ci := 7) (v := .ref (r 19)) (C := RX7) (T := TX7) (N := 92) hx hb hts hinX7 hown hK hP 0 rfl rfl 19 (by decide) w_0 rfl rfl dX7_wordsOf_1 ?_
  refine lv_bipush (v := 12) hx hb dX7_wordsOf_4 (by decide +kernel) ?_
  refine lv_aload_n hx hb dX7_wordsOf_6 rfl (lv_at hl 0 rfl) ?_
  have f_7_1 : iR (i 13) 0 1 := hI 13
  refine k_get (D := (dC, dI)) (ci := 7) (v := .int (i 13)) (C := RX7) (T := TX7) (N := 92) hx hb hts hinX7 hown hK hP 0 rfl rfl 13 (by decide) w_1 rfl rfl dX7_wordsOf_7 ?_
  refine lv_imul hx hb dX7_wordsOf_10 ?_
  refine lv_topi (fun y_10 ey_10 => ?_)
  have f_10_2 : iR y_10 0 12 := iR_mul ey_10 (iR_c (n := 12) (a := 12) (b := 12) (by decide +kernel) (by decide +kernel)) f_7_1 (by decide +kernel)
  refine lv_iload_n hx hb dX7_wordsOf_11 rfl (lv_at hl 1 rfl) ?_
  refine lv_iadd hx hb dX7_wordsOf_12 ?_
  refine lv_topi (fun y_12 ey_12 => ?_)
  have f_12_3 : iR y_12 0 23 := iR_add ey_12 f_10_2 hx1 (by decide +kernel)
  refine va_iald hx hb hK hP 1 0 rfl rfl (iR_vp f_12_3 (by decide +kernel)) dX7_wordsOf_13 ?_
  exact k_ri B hP hD hS dX7_wordsOf_14 () [0, 1] rfl rfl rfl (Nat.le_of_ble_eq_true rfl) (Nat.le_of_ble_eq_true rfl) trivial
set_option maxHeartbeats 8000000 in
set_option maxRecDepth 100000 in
theorem s_X7_rhymeOf_v0 (l : Launch) (dC : Nat → ClassId) (dI : Nat → Nat → Nat) (cI cJ cZ cM : ClassId) (h : Nat) (r : Nat → Nat) (i : Nat → Int32) (j : Nat → Int64) (x1 : Int32) (f16 : Nat → Int32) (f20 : Nat → Int32) (hx1 : iR x1 0 11) (hI : mR i) (hf20 : aR f20 0 9) : k_Mi l yX7_rhymeOf wsX7_rhymeOf ({ frames := 2, cells := 0, slots := 0, locals := 61 }) (dC, dI) vwCl (tyy cI cJ cZ cM) [(h, .inr (7, oM r i j)), ((r 16), .inl (cI, 20, .inl f16)), ((r 20), .inl (cI, 24, .inl f20))] [.ref h, .int x1] 0 0 (fun (u9 : Unit) => [(h, .inr (7, oM r i j)), ((r 16), .inl (cI, 20, .inl f16)), ((r 20), .inl (cI, 24, .inl f20))]) (fun (r9 : Int32) (u9 : Unit) => True) := by
  refine fun sz => k_enter (cc := cX7_rhymeOf) (maxL := 2) (ret := some (.int)) (Qc := fun A => va_Qi (fun (r9 : Int32) (u9 : Unit) => True) (fun u => k_B (dC, dI) vwCl (tyy cI cJ cZ cM) A ((fun (u9 : Unit) => [(h, .inr (7, oM r i j)), ((r 16), .inl (cI, 20, .inl f16)), ((r 20), .inl (cI, 24, .inl f20))]) u)) A) sz (by decide +kernel) rfl (Nat.le_of_ble_eq_true rfl) (fun p e s m args below meth c A ls H locs B hP hD hS hl => ?_)
  obtain ⟨hx, hb, hml, hown, hts, hr, hlk, hnm, hK, hA, hN, hC⟩ := id B
  have hown : s.vm.findClass RX7 = some m.cls := hown
  have hl : lv_has ls 2 [(0, .ref h), (1, .int x1)] := hl
  have w_0 : (Cond.fieldLink RX7 60 "WishSeaModel" "thingRhyme" "[I").before args s = true := hts _ (List.mem_of_getElem? (i := 1) rfl)
  have w_1 : (Cond.fieldLink RX7 51 "WishSeaModel" "bank" "I").before args s = true := hts _ (List.mem_of_getElem? (i := 2) rfl)
  have hinX7 : ∀ w ∈ u_ws RX7 TX7 92, w ∈ wsX7_rhymeOf := fun _ h => List.mem_cons_of_mem _ (List.mem_append_right _ h)
  refine lv_aload_n hx hb dX7_rhymeOf_0 rfl (lv_at hl 0 rfl) ?_
  refine k_get (D := (dC, dI)) (ci := 7) (v := .ref (r 16)) (C := RX7) (T := TX7) (N := 92) hx hb hts hinX7 hown hK hP 0 rfl rfl 16 (by decide) w_0 rfl rfl dX7_rhymeOf_1 ?_
  refine lv_bipush (v := 10) hx hb dX7_rhymeOf_4 (by decide +kernel) ?_
  refine lv_aload_n hx hb dX7_rhymeOf_6 rfl (lv_at hl 0 rfl) ?_
  have f_7_1 : iR (i 13) 0 1 := hI 13
  refine k_get (D := (dC, dI)) (ci := 7) (v := .int (i 13)) (C := RX7) (T := TX7) (N := 92) hx hb hts hinX7 hown hK hP 0 rfl rfl 13 (by decide) w_1 rfl rfl dX7_rhymeOf_7 ?_
  refine lv_imul hx hb dX7_rhymeOf_10 ?_
  refine lv_topi (fun y_10 ey_10 => ?_)
  have f_10_2 : iR y_10 0 10 := iR_mul ey_10 (iR_c (n := 10) (a := 10) (b := 10) (by decide +kernel) (by decide +kernel)) f_7_1 (by decide +kernel)
  refine lv_aload_n hx hb dX7_rhymeOf_11 rfl (lv_at hl 0 rfl) ?_
  refine lv_iload_n hx hb dX7_rhymeOf_12 rfl (lv_at hl 1 rfl) ?_
  refine k_ci (wc := [(h, .inr (7, oM r i j)), ((r 20), .inl (cI, 24, .inl f20))]) (wr := [((r 16), .inl (cI, 20, .inl f16))]) (fun hPc hDc hFc => va_runV (As := [.int x1]) (rest := [.int y_10, .ref (r 16)]) ⟨hx, hb, hml, hown, hts⟩ (s_X7_givesOf_v0 l dC dI cI cJ cZ cM h r i j x1 f20 hx1 hI hf20 H.size) (cwV 1 hts gX7_rhymeOf_X7_givesOf rfl rfl rfl (by decide +kernel) ⟨(Nat.le_of_ble_eq_true rfl), (Nat.le_of_ble_eq_true rfl)⟩) (k_pV hPc hDc hK hN hC hS hFc hP (q0 := 0) (ci := 7) rfl rfl) rfl rfl hl.1 rfl (lv_room (Nat.le_of_ble_eq_true rfl)) dX7_rhymeOf_13 ⟨(Nat.le_of_ble_eq_true rfl), (Nat.le_of_ble_eq_true rfl)⟩) hP hD hS hA [0, 2] [1] rfl rfl rfl rfl (by decide) (fun _ => rfl) 0 0 rfl rfl (fun r_13 u_13 H locs hw hP hD hS => ?_)
  have g_13_0 := hw
  have hP : va_P (dC, dI) vwCl [((r 16), .inl (cI, 20, .inl f16)), (h, .inr (7, oM r i j)), ((r 20), .inl (cI, 24, .inl f20))] H := hP
  have hD : va_D A [((r 16), .inl (cI, 20, .inl f16)), (h, .inr (7, oM r i j)), ((r 20), .inl (cI, 24, .inl f20))] := hD
  refine lv_iadd hx hb dX7_rhymeOf_16 ?_
  refine lv_topi (fun y_16 ey_16 => ?_)
  have f_16_3 : iR y_16 0 19 := iR_add ey_16 f_10_2 g_13_0 (by decide +kernel)
  refine va_iald hx hb hK hP 0 0 rfl rfl (iR_vp f_16_3 (by decide +kernel)) dX7_rhymeOf_17 ?_
  exact k_ri B hP hD hS dX7_rhymeOf_18 () [1, 0, 2] rfl rfl rfl (Nat.le_of_ble_eq_true rfl) (Nat.le_of_ble_eq_true rfl) trivial
set_option maxHeartbeats 8000000 in
set_option maxRecDepth 100000 in
theorem s_X7_ring_v0 (l : Launch) (dC : Nat → ClassId) (dI : Nat → Nat → Nat) (cI cJ cZ cM : ClassId) (h : Nat) (r : Nat → Nat) (i : Nat → Int32) (j : Nat → Int64) (x1 : Int32) (hx1 : iR x1 0 20) (hI : mR i) : k_Mi l yX7_ring wsX7_ring ({ frames := 1, cells := 0, slots := 0, locals := 40 }) (dC, dI) vwCl (tyy cI cJ cZ cM) [(h, .inr (7, oM r i j))] [.ref h, .int x1] 0 0 (fun (u9 : Unit) => [(h, .inr (7, oM r i j))]) (fun (r9 : Int32) (u9 : Unit) => (iR r9 2 21)) := by
  refine fun sz => k_enter (cc := cX7_ring) (maxL := 2) (ret := some (.int)) (Qc := fun A => va_Qi (fun (r9 : Int32) (u9 : Unit) => (iR r9 2 21)) (fun u => k_B (dC, dI) vwCl (tyy cI cJ cZ cM) A ((fun (u9 : Unit) => [(h, .inr (7, oM r i j))]) u)) A) sz (by decide +kernel) rfl (Nat.le_of_ble_eq_true rfl) (fun p e s m args below meth c A ls H locs B hP hD hS hl => ?_)
  obtain ⟨hx, hb, hml, hown, hts, hr, hlk, hnm, hK, hA, hN, hC⟩ := id B
  have hown : s.vm.findClass RX7 = some m.cls := hown
  have hl : lv_has ls 2 [(0, .ref h), (1, .int x1)] := hl
  have w_0 : (Cond.fieldLink RX7 189 "WishSeaModel" "undoFirst" "I").before args s = true := hts _ (List.mem_of_getElem? (i := 1) rfl)
  have hinX7 : ∀ w ∈ u_ws RX7 TX7 92, w ∈ wsX7_ring := fun _ h => List.mem_cons_of_mem _ (List.mem_append_right _ h)
  refine lv_iconst (v := 2) hx hb dX7_ring_0 (by decide +kernel) ?_
  refine lv_aload_n hx hb dX7_ring_1 rfl (lv_at hl 0 rfl) ?_
  have f_2_1 : iR (i 58) 0 19 := hI 58
  refine k_get (D := (dC, dI)) (ci := 7) (v := .int (i 58)) (C := RX7) (T := TX7) (N := 92) hx hb hts hinX7 hown hK hP 0 rfl rfl 58 (by decide) w_0 rfl rfl dX7_ring_2 ?_
  refine lv_iload_n hx hb dX7_ring_5 rfl (lv_at hl 1 rfl) ?_
  refine lv_iadd hx hb dX7_ring_6 ?_
  refine lv_topi (fun y_6 ey_6 => ?_)
  have f_6_2 : iR y_6 0 39 := iR_add ey_6 f_2_1 hx1 (by decide +kernel)
  refine lv_bipush (v := 20) hx hb dX7_ring_7 (by decide +kernel) ?_
  refine lv_irem hx hb dX7_ring_9 (i_nz (iR_c (n := 20) (a := 20) (b := 20) (by decide +kernel) (by decide +kernel)) (by decide +kernel)) ?_
  refine lv_topi (fun y_9 ey_9 => ?_)
  have f_9_3 : iR y_9 0 19 := iR_rem ey_9 f_6_2 (iR_c (n := 20) (a := 20) (b := 20) (by decide +kernel) (by decide +kernel)) (by decide +kernel)
  refine lv_iadd hx hb dX7_ring_10 ?_
  refine lv_topi (fun y_10 ey_10 => ?_)
  have f_10_4 : iR y_10 2 21 := iR_add ey_10 (iR_c (n := 2) (a := 2) (b := 2) (by decide +kernel) (by decide +kernel)) f_9_3 (by decide +kernel)
  exact k_ri B hP hD hS dX7_ring_11 () [0] rfl rfl rfl (Nat.le_of_ble_eq_true rfl) (Nat.le_of_ble_eq_true rfl) (show iR y_10 2 21 from f_10_4)
set_option maxHeartbeats 8000000 in
set_option maxRecDepth 100000 in
theorem s_X7_copies_v0 (l : Launch) (dC : Nat → ClassId) (dI : Nat → Nat → Nat) (cI cJ cZ cM : ClassId) (h : Nat) (r : Nat → Nat) (i : Nat → Int32) (j : Nat → Int64) (x1 : Int32) (x2 : Int32) (f49 : Nat → Int32) (f50 : Nat → Int32) (f51 : Nat → Int32) (f52 : Nat → Int32) (f53 : Nat → Int32) (f54 : Nat → Int32) (f55 : Nat → Int32) (f56 : Nat → Int32) (f57 : Nat → Int32) (hx1 : iR x1 0 21) (hx2 : iR x2 0 21) (hI : mR i) (hf49 : aR f49 0 1023) (hf50 : aR f50 0 999) (hf53 : aR f53 0 50) : k_Mv l yX7_copies wsX7_copies ({ frames := 1, cells := 0, slots := 0, locals := 40 }) (dC, dI) vwCl (tyy cI cJ cZ cM) [(h, .inr (7, oM r i j)), ((r 49), .inl (cI, 22, .inl f49)), ((r 50), .inl (cI, 22, .inl f50)), ((r 51), .inl (cI, 22, .inl f51)), ((r 52), .inl (cI, 22, .inl f52)), ((r 53), .inl (cI, 22, .inl f53)), ((r 54), .inl (cI, 1100, .inl f54)), ((r 55), .inl (cI, 1100, .inl f55)), ((r 56), .inl (cI, 1100, .inl f56)), ((r 57), .inl (cI, 1100, .inl f57))] [.ref h, .int x1, .int x2] 0 0 (fun (u9 : SU) => [(h, .inr (7, oM r i j)), ((r 49), .inl (cI, 22, .inl (upd f49 x1.toNatClampNeg (f49 x2.toNatClampNeg)))), ((r 50), .inl (cI, 22, .inl (upd f50 x1.toNatClampNeg (f50 x2.toNatClampNeg)))), ((r 51), .inl (cI, 22, .inl (upd f51 x1.toNatClampNeg (f51 x2.toNatClampNeg)))), ((r 52), .inl (cI, 22, .inl (upd f52 x1.toNatClampNeg (f52 x2.toNatClampNeg)))), ((r 53), .inl (cI, 22, .inl (upd f53 x1.toNatClampNeg (f53 x2.toNatClampNeg)))), ((r 54), .inl (cI, 1100, .inl (u9.2.2.1 0))), ((r 55), .inl (cI, 1100, .inl (u9.2.2.1 1))), ((r 56), .inl (cI, 1100, .inl (u9.2.2.1 2))), ((r 57), .inl (cI, 1100, .inl (u9.2.2.1 3)))]) (fun (u9 : SU) => True) := by
  refine fun sz => k_enter (cc := cX7_copies) (maxL := 4) (ret := none) (Qc := fun A => va_Qv (fun (u9 : SU) => True) (fun u => k_B (dC, dI) vwCl (tyy cI cJ cZ cM) A ((fun (u9 : SU) => [(h, .inr (7, oM r i j)), ((r 49), .inl (cI, 22, .inl (upd f49 x1.toNatClampNeg (f49 x2.toNatClampNeg)))), ((r 50), .inl (cI, 22, .inl (upd f50 x1.toNatClampNeg (f50 x2.toNatClampNeg)))), ((r 51), .inl (cI, 22, .inl (upd f51 x1.toNatClampNeg (f51 x2.toNatClampNeg)))), ((r 52), .inl (cI, 22, .inl (upd f52 x1.toNatClampNeg (f52 x2.toNatClampNeg)))), ((r 53), .inl (cI, 22, .inl (upd f53 x1.toNatClampNeg (f53 x2.toNatClampNeg)))), ((r 54), .inl (cI, 1100, .inl (u9.2.2.1 0))), ((r 55), .inl (cI, 1100, .inl (u9.2.2.1 1))), ((r 56), .inl (cI, 1100, .inl (u9.2.2.1 2))), ((r 57), .inl (cI, 1100, .inl (u9.2.2.1 3)))]) u)) A) sz (by decide +kernel) rfl (Nat.le_of_ble_eq_true rfl) (fun p e s m args below meth c A ls H locs B hP hD hS hl => ?_)
  obtain ⟨hx, hb, hml, hown, hts, hr, hlk, hnm, hK, hA, hN, hC⟩ := id B
  have hown : s.vm.findClass RX7 = some m.cls := hown
  have hl : lv_has ls 4 [(0, .ref h), (1, .int x1), (2, .int x2)] := hl
  have w_0 : (Cond.fieldLink RX7 162 "WishSeaModel" "hadOf" "[I").before args s = true := hts _ (List.mem_of_getElem? (i := 1) rfl)
  have w_1 : (Cond.fieldLink RX7 165 "WishSeaModel" "seaOf" "[I").before args s = true := hts _ (List.mem_of_getElem? (i := 2) rfl)
  have w_2 : (Cond.fieldLink RX7 168 "WishSeaModel" "saidOf" "[I").before args s = true := hts _ (List.mem_of_getElem? (i := 3) rfl)
  have w_3 : (Cond.fieldLink RX7 171 "WishSeaModel" "dayOf" "[I").before args s = true := hts _ (List.mem_of_getElem? (i := 4) rfl)
  have w_4 : (Cond.fieldLink RX7 174 "WishSeaModel" "keptMany" "[I").before args s = true := hts _ (List.mem_of_getElem? (i := 5) rfl)
  have w_5 : (Cond.fieldLink RX7 177 "WishSeaModel" "keptDay" "[I").before args s = true := hts _ (List.mem_of_getElem? (i := 6) rfl)
  have w_6 : (Cond.fieldLink RX7 180 "WishSeaModel" "keptWish" "[I").before args s = true := hts _ (List.mem_of_getElem? (i := 7) rfl)
  have w_7 : (Cond.fieldLink RX7 183 "WishSeaModel" "keptSea" "[I").before args s = true := hts _ (List.mem_of_getElem? (i := 8) rfl)
  have w_8 : (Cond.fieldLink RX7 186 "WishSeaModel" "keptFell" "[I").before args s = true := hts _ (List.mem_of_getElem? (i := 9) rfl)
  have hinX7 : ∀ w ∈ u_ws RX7 TX7 92, w ∈ wsX7_copies := fun _ h => List.mem_cons_of_mem _ (List.mem_append_right _ h)
  refine lv_aload_n hx hb dX7_copies_0 rfl (lv_at hl 0 rfl) ?_
  refine k_get (D := (dC, dI)) (ci := 7) (v := .ref (r 49)) (C := RX7) (T := TX7) (N := 92) hx hb hts hinX7 hown hK hP 0 rfl rfl 49 (by decide) w_0 rfl rfl dX7_copies_1 ?_
  refine lv_iload_n hx hb dX7_copies_4 rfl (lv_at hl 1 rfl) ?_
  refine lv_aload_n hx hb dX7_copies_5 rfl (lv_at hl 0 rfl) ?_
  refine k_get (D := (dC, dI)) (ci := 7) (v := .ref (r 49)) (C := RX7) (T := TX7) (N := 92) hx hb hts hinX7 hown hK hP 0 rfl rfl 49 (by decide) w_0 rfl rfl dX7_copies_6 ?_
  refine lv_iload_n hx hb dX7_copies_9 rfl (lv_at hl 2 rfl) ?_
  refine va_iald hx hb hK hP 1 0 rfl rfl (iR_vp hx2 (by decide +kernel)) dX7_copies_10 ?_
  have f_10_1 : iR (f49 x2.toNatClampNeg) 0 1023 := hf49 _
  refine s_iast (g := (upd f49 x1.toNatClampNeg (f49 x2.toNatClampNeg))) (ws' := [(h, .inr (7, oM r i j)), ((r 49), .inl (cI, 22, .inl (upd f49 x1.toNatClampNeg (f49 x2.toNatClampNeg)))), ((r 50), .inl (cI, 22, .inl f50)), ((r 51), .inl (cI, 22, .inl f51)), ((r 52), .inl (cI, 22, .inl f52)), ((r 53), .inl (cI, 22, .inl f53)), ((r 54), .inl (cI, 1100, .inl f54)), ((r 55), .inl (cI, 1100, .inl f55)), ((r 56), .inl (cI, 1100, .inl f56)), ((r 57), .inl (cI, 1100, .inl f57))]) hx hb hK hP hD hS 1 0 rfl rfl (iR_vp hx1 (by decide +kernel)) rfl rfl dX7_copies_11 (fun H locs hP hD hS => ?_)
  refine lv_aload_n hx hb dX7_copies_12 rfl (lv_at hl 0 rfl) ?_
  refine k_get (D := (dC, dI)) (ci := 7) (v := .ref (r 50)) (C := RX7) (T := TX7) (N := 92) hx hb hts hinX7 hown hK hP 0 rfl rfl 50 (by decide) w_1 rfl rfl dX7_copies_13 ?_
  refine lv_iload_n hx hb dX7_copies_16 rfl (lv_at hl 1 rfl) ?_
  refine lv_aload_n hx hb dX7_copies_17 rfl (lv_at hl 0 rfl) ?_
  refine k_get (D := (dC, dI)) (ci := 7) (v := .ref (r 50)) (C := RX7) (T := TX7) (N := 92) hx hb hts hinX7 hown hK hP 0 rfl rfl 50 (by decide) w_1 rfl rfl dX7_copies_18 ?_
  refine lv_iload_n hx hb dX7_copies_21 rfl (lv_at hl 2 rfl) ?_
  refine va_iald hx hb hK hP 2 0 rfl rfl (iR_vp hx2 (by decide +kernel)) dX7_copies_22 ?_
  have f_22_2 : iR (f50 x2.toNatClampNeg) 0 999 := hf50 _
  refine s_iast (g := (upd f50 x1.toNatClampNeg (f50 x2.toNatClampNeg))) (ws' := [(h, .inr (7, oM r i j)), ((r 49), .inl (cI, 22, .inl (upd f49 x1.toNatClampNeg (f49 x2.toNatClampNeg)))), ((r 50), .inl (cI, 22, .inl (upd f50 x1.toNatClampNeg (f50 x2.toNatClampNeg)))), ((r 51), .inl (cI, 22, .inl f51)), ((r 52), .inl (cI, 22, .inl f52)), ((r 53), .inl (cI, 22, .inl f53)), ((r 54), .inl (cI, 1100, .inl f54)), ((r 55), .inl (cI, 1100, .inl f55)), ((r 56), .inl (cI, 1100, .inl f56)), ((r 57), .inl (cI, 1100, .inl f57))]) hx hb hK hP hD hS 2 0 rfl rfl (iR_vp hx1 (by decide +kernel)) rfl rfl dX7_copies_23 (fun H locs hP hD hS => ?_)
  refine lv_aload_n hx hb dX7_copies_24 rfl (lv_at hl 0 rfl) ?_
  refine k_get (D := (dC, dI)) (ci := 7) (v := .ref (r 51)) (C := RX7) (T := TX7) (N := 92) hx hb hts hinX7 hown hK hP 0 rfl rfl 51 (by decide) w_2 rfl rfl dX7_copies_25 ?_
  refine lv_iload_n hx hb dX7_copies_28 rfl (lv_at hl 1 rfl) ?_
  refine lv_aload_n hx hb dX7_copies_29 rfl (lv_at hl 0 rfl) ?_
  refine k_get (D := (dC, dI)) (ci := 7) (v := .ref (r 51)) (C := RX7) (T := TX7) (N := 92) hx hb hts hinX7 hown hK hP 0 rfl rfl 51 (by decide) w_2 rfl rfl dX7_copies_30 ?_
  refine lv_iload_n hx hb dX7_copies_33 rfl (lv_at hl 2 rfl) ?_
  refine va_iald hx hb hK hP 3 0 rfl rfl (iR_vp hx2 (by decide +kernel)) dX7_copies_34 ?_
  refine s_iast (g := (upd f51 x1.toNatClampNeg (f51 x2.toNatClampNeg))) (ws' := [(h, .inr (7, oM r i j)), ((r 49), .inl (cI, 22, .inl (upd f49 x1.toNatClampNeg (f49 x2.toNatClampNeg)))), ((r 50), .inl (cI, 22, .inl (upd f50 x1.toNatClampNeg (f50 x2.toNatClampNeg)))), ((r 51), .inl (cI, 22, .inl (upd f51 x1.toNatClampNeg (f51 x2.toNatClampNeg)))), ((r 52), .inl (cI, 22, .inl f52)), ((r 53), .inl (cI, 22, .inl f53)), ((r 54), .inl (cI, 1100, .inl f54)), ((r 55), .inl (cI, 1100, .inl f55)), ((r 56), .inl (cI, 1100, .inl f56)), ((r 57), .inl (cI, 1100, .inl f57))]) hx hb hK hP hD hS 3 0 rfl rfl (iR_vp hx1 (by decide +kernel)) rfl rfl dX7_copies_35 (fun H locs hP hD hS => ?_)
  refine lv_aload_n hx hb dX7_copies_36 rfl (lv_at hl 0 rfl) ?_
  refine k_get (D := (dC, dI)) (ci := 7) (v := .ref (r 52)) (C := RX7) (T := TX7) (N := 92) hx hb hts hinX7 hown hK hP 0 rfl rfl 52 (by decide) w_3 rfl rfl dX7_copies_37 ?_
  refine lv_iload_n hx hb dX7_copies_40 rfl (lv_at hl 1 rfl) ?_
  refine lv_aload_n hx hb dX7_copies_41 rfl (lv_at hl 0 rfl) ?_
  refine k_get (D := (dC, dI)) (ci := 7) (v := .ref (r 52)) (C := RX7) (T := TX7) (N := 92) hx hb hts hinX7 hown hK hP 0 rfl rfl 52 (by decide) w_3 rfl rfl dX7_copies_42 ?_
  refine lv_iload_n hx hb dX7_copies_45 rfl (lv_at hl 2 rfl) ?_
  refine va_iald hx hb hK hP 4 0 rfl rfl (iR_vp hx2 (by decide +kernel)) dX7_copies_46 ?_
  refine s_iast (g := (upd f52 x1.toNatClampNeg (f52 x2.toNatClampNeg))) (ws' := [(h, .inr (7, oM r i j)), ((r 49), .inl (cI, 22, .inl (upd f49 x1.toNatClampNeg (f49 x2.toNatClampNeg)))), ((r 50), .inl (cI, 22, .inl (upd f50 x1.toNatClampNeg (f50 x2.toNatClampNeg)))), ((r 51), .inl (cI, 22, .inl (upd f51 x1.toNatClampNeg (f51 x2.toNatClampNeg)))), ((r 52), .inl (cI, 22, .inl (upd f52 x1.toNatClampNeg (f52 x2.toNatClampNeg)))), ((r 53), .inl (cI, 22, .inl f53)), ((r 54), .inl (cI, 1100, .inl f54)), ((r 55), .inl (cI, 1100, .inl f55)), ((r 56), .inl (cI, 1100, .inl f56)), ((r 57), .inl (cI, 1100, .inl f57))]) hx hb hK hP hD hS 4 0 rfl rfl (iR_vp hx1 (by decide +kernel)) rfl rfl dX7_copies_47 (fun H locs hP hD hS => ?_)
  refine lv_aload_n hx hb dX7_copies_48 rfl (lv_at hl 0 rfl) ?_
  refine k_get (D := (dC, dI)) (ci := 7) (v := .ref (r 53)) (C := RX7) (T := TX7) (N := 92) hx hb hts hinX7 hown hK hP 0 rfl rfl 53 (by decide) w_4 rfl rfl dX7_copies_49 ?_
  refine lv_iload_n hx hb dX7_copies_52 rfl (lv_at hl 1 rfl) ?_
  refine lv_aload_n hx hb dX7_copies_53 rfl (lv_at hl 0 rfl) ?_
  refine k_get (D := (dC, dI)) (ci := 7) (v := .ref (r 53)) (C := RX7) (T := TX7) (N := 92) hx hb hts hinX7 hown hK hP 0 rfl rfl 53 (by decide) w_4 rfl rfl dX7_copies_54 ?_
  refine lv_iload_n hx hb dX7_copies_57 rfl (lv_at hl 2 rfl) ?_
  refine va_iald hx hb hK hP 5 0 rfl rfl (iR_vp hx2 (by decide +kernel)) dX7_copies_58 ?_
  have f_58_3 : iR (f53 x2.toNatClampNeg) 0 50 := hf53 _
  refine s_iast (g := (upd f53 x1.toNatClampNeg (f53 x2.toNatClampNeg))) (ws' := [(h, .inr (7, oM r i j)), ((r 49), .inl (cI, 22, .inl (upd f49 x1.toNatClampNeg (f49 x2.toNatClampNeg)))), ((r 50), .inl (cI, 22, .inl (upd f50 x1.toNatClampNeg (f50 x2.toNatClampNeg)))), ((r 51), .inl (cI, 22, .inl (upd f51 x1.toNatClampNeg (f51 x2.toNatClampNeg)))), ((r 52), .inl (cI, 22, .inl (upd f52 x1.toNatClampNeg (f52 x2.toNatClampNeg)))), ((r 53), .inl (cI, 22, .inl (upd f53 x1.toNatClampNeg (f53 x2.toNatClampNeg)))), ((r 54), .inl (cI, 1100, .inl f54)), ((r 55), .inl (cI, 1100, .inl f55)), ((r 56), .inl (cI, 1100, .inl f56)), ((r 57), .inl (cI, 1100, .inl f57))]) hx hb hK hP hD hS 5 0 rfl rfl (iR_vp hx1 (by decide +kernel)) rfl rfl dX7_copies_59 (fun H locs hP hD hS => ?_)
  refine lv_iconst (v := 0) hx hb dX7_copies_60 (by decide +kernel) ?_
  have J_62 : ∀ (n_62 : Nat) (j62_A6 : Nat → Int32) (j62_A7 : Nat → Int32) (j62_A8 : Nat → Int32) (j62_A9 : Nat → Int32) (j62_L3 : Int32) (hj62_L3 : iR j62_L3 0 50) (hm_62 : (50 - j62_L3.toInt).toNat < n_62) (H : Heap) (locs : List Loc) (ls : Array Slot), va_P (dC, dI) vwCl [(h, .inr (7, oM r i j)), ((r 49), .inl (cI, 22, .inl (upd f49 x1.toNatClampNeg (f49 x2.toNatClampNeg)))), ((r 50), .inl (cI, 22, .inl (upd f50 x1.toNatClampNeg (f50 x2.toNatClampNeg)))), ((r 51), .inl (cI, 22, .inl (upd f51 x1.toNatClampNeg (f51 x2.toNatClampNeg)))), ((r 52), .inl (cI, 22, .inl (upd f52 x1.toNatClampNeg (f52 x2.toNatClampNeg)))), ((r 53), .inl (cI, 22, .inl (upd f53 x1.toNatClampNeg (f53 x2.toNatClampNeg)))), ((r 54), .inl (cI, 1100, .inl j62_A6)), ((r 55), .inl (cI, 1100, .inl j62_A7)), ((r 56), .inl (cI, 1100, .inl j62_A8)), ((r 57), .inl (cI, 1100, .inl j62_A9))] H → va_D A [(h, .inr (7, oM r i j)), ((r 49), .inl (cI, 22, .inl (upd f49 x1.toNatClampNeg (f49 x2.toNatClampNeg)))), ((r 50), .inl (cI, 22, .inl (upd f50 x1.toNatClampNeg (f50 x2.toNatClampNeg)))), ((r 51), .inl (cI, 22, .inl (upd f51 x1.toNatClampNeg (f51 x2.toNatClampNeg)))), ((r 52), .inl (cI, 22, .inl (upd f52 x1.toNatClampNeg (f52 x2.toNatClampNeg)))), ((r 53), .inl (cI, 22, .inl (upd f53 x1.toNatClampNeg (f53 x2.toNatClampNeg)))), ((r 54), .inl (cI, 1100, .inl j62_A6)), ((r 55), .inl (cI, 1100, .inl j62_A7)), ((r 56), .inl (cI, 1100, .inl j62_A8)), ((r 57), .inl (cI, 1100, .inl j62_A9))] → va_S A s.heap H locs → lv_has ls 4 [(0, .ref h), (1, .int x1), (2, .int x2), (3, .int j62_L3)] → W p l e ({ frames := 1, cells := 0, slots := 0, locals := 40 }) s m args below meth c H locs 0 0 (MQ below (va_Qv (fun (u9 : SU) => True) (fun u => k_B (dC, dI) vwCl (tyy cI cJ cZ cM) A ((fun (u9 : SU) => [(h, .inr (7, oM r i j)), ((r 49), .inl (cI, 22, .inl (upd f49 x1.toNatClampNeg (f49 x2.toNatClampNeg)))), ((r 50), .inl (cI, 22, .inl (upd f50 x1.toNatClampNeg (f50 x2.toNatClampNeg)))), ((r 51), .inl (cI, 22, .inl (upd f51 x1.toNatClampNeg (f51 x2.toNatClampNeg)))), ((r 52), .inl (cI, 22, .inl (upd f52 x1.toNatClampNeg (f52 x2.toNatClampNeg)))), ((r 53), .inl (cI, 22, .inl (upd f53 x1.toNatClampNeg (f53 x2.toNatClampNeg)))), ((r 54), .inl (cI, 1100, .inl (u9.2.2.1 0))), ((r 55), .inl (cI, 1100, .inl (u9.2.2.1 1))), ((r 56), .inl (cI, 1100, .inl (u9.2.2.1 2))), ((r 57), .inl (cI, 1100, .inl (u9.2.2.1 3)))]) u)) A) args s 0 0 A) (F0 m 62 ls []) := by
    intro n_62
    induction n_62 with
    | zero => intro j62_A6 j62_A7 j62_A8 j62_A9 j62_L3 hj62_L3 hm_62; exact absurd hm_62 (Nat.not_lt_zero _)
    | succ n_62 ih_62 =>
      intro j62_A6 j62_A7 j62_A8 j62_A9 j62_L3 hj62_L3 hm_62 H locs ls hP hD hS hl
      refine lv_iload_n hx hb dX7_copies_62 rfl (lv_at hl 3 rfl) ?_
      refine lv_aload_n hx hb dX7_copies_63 rfl (lv_at hl 0 rfl) ?_
      refine k_get (D := (dC, dI)) (ci := 7) (v := .ref (r 53)) (C := RX7) (T := TX7) (N := 92) hx hb hts hinX7 hown hK hP 0 rfl rfl 53 (by decide) w_4 rfl rfl dX7_copies_64 ?_
      refine lv_iload_n hx hb dX7_copies_67 rfl (lv_at hl 2 rfl) ?_
      refine va_iald hx hb hK hP 5 0 rfl rfl (iR_vp hx2 (by decide +kernel)) dX7_copies_68 ?_
      refine lv_topi (fun y_68 ey_68 => ?_)
      have f_68_1 : iR y_68 0 50 := iR_of ey_68 ((aR_upd _ hf53 f_58_3) _)
      refine lv_icmp_ge (tgt := 166) hx hb dX7_copies_69 (by decide) (fun c_69 => ?_) (fun c_69 => ?_)
      · have c_69 : y_68 ≤ j62_L3 := c_69
        exact k_rv B hP hD hS dX7_copies_166 ((fun _ => 0), (fun _ => 0), (fun k9 => match k9 with | 0 => j62_A6 | 1 => j62_A7 | 2 => j62_A8 | 3 => j62_A9 | _ => (fun _ => 0)), (fun _ => (fun _ => 0)), (fun _ => 0)) [0, 1, 2, 3, 4, 5, 6, 7, 8, 9] rfl rfl (Nat.le_of_ble_eq_true rfl) (Nat.le_of_ble_eq_true rfl) trivial
      · have c_69 : j62_L3 < y_68 := i_nle c_69
        have f_72_2 : iR j62_L3 0 49 := iR_ltL c_69 hj62_L3 f_68_1 (by decide +kernel)
        have f_72_3 : iR y_68 1 50 := iR_ltR c_69 hj62_L3 f_68_1 (by decide +kernel)
        refine lv_aload_n hx hb dX7_copies_72 rfl (lv_at hl 0 rfl) ?_
        refine k_get (D := (dC, dI)) (ci := 7) (v := .ref (r 54)) (C := RX7) (T := TX7) (N := 92) hx hb hts hinX7 hown hK hP 0 rfl rfl 54 (by decide) w_5 rfl rfl dX7_copies_73 ?_
        refine lv_bipush (v := 50) hx hb dX7_copies_76 (by decide +kernel) ?_
        refine lv_iload_n hx hb dX7_copies_78 rfl (lv_at hl 1 rfl) ?_
        refine lv_imul hx hb dX7_copies_79 ?_
        refine lv_topi (fun y_79 ey_79 => ?_)
        have f_79_4 : iR y_79 0 1050 := iR_mul ey_79 (iR_c (n := 50) (a := 50) (b := 50) (by decide +kernel) (by decide +kernel)) hx1 (by decide +kernel)
        refine lv_iload_n hx hb dX7_copies_80 rfl (lv_at hl 3 rfl) ?_
        refine lv_iadd hx hb dX7_copies_81 ?_
        refine lv_topi (fun y_81 ey_81 => ?_)
        have f_81_5 : iR y_81 0 1099 := iR_add ey_81 f_79_4 f_72_2 (by decide +kernel)
        refine lv_aload_n hx hb dX7_copies_82 rfl (lv_at hl 0 rfl) ?_
        refine k_get (D := (dC, dI)) (ci := 7) (v := .ref (r 54)) (C := RX7) (T := TX7) (N := 92) hx hb hts hinX7 hown hK hP 0 rfl rfl 54 (by decide) w_5 rfl rfl dX7_copies_83 ?_
        refine lv_bipush (v := 50) hx hb dX7_copies_86 (by decide +kernel) ?_
        refine lv_iload_n hx hb dX7_copies_88 rfl (lv_at hl 2 rfl) ?_
        refine lv_imul hx hb dX7_copies_89 ?_
        refine lv_topi (fun y_89 ey_89 => ?_)
        have f_89_6 : iR y_89 0 1050 := iR_mul ey_89 (iR_c (n := 50) (a := 50) (b := 50) (by decide +kernel) (by decide +kernel)) hx2 (by decide +kernel)
        refine lv_iload_n hx hb dX7_copies_90 rfl (lv_at hl 3 rfl) ?_
        refine lv_iadd hx hb dX7_copies_91 ?_
        refine lv_topi (fun y_91 ey_91 => ?_)
        have f_91_7 : iR y_91 0 1099 := iR_add ey_91 f_89_6 f_72_2 (by decide +kernel)
        refine va_iald hx hb hK hP 6 0 rfl rfl (iR_vp f_91_7 (by decide +kernel)) dX7_copies_92 ?_
        refine s_iast (g := (upd j62_A6 y_81.toNatClampNeg (j62_A6 y_91.toNatClampNeg))) (ws' := [(h, .inr (7, oM r i j)), ((r 49), .inl (cI, 22, .inl (upd f49 x1.toNatClampNeg (f49 x2.toNatClampNeg)))), ((r 50), .inl (cI, 22, .inl (upd f50 x1.toNatClampNeg (f50 x2.toNatClampNeg)))), ((r 51), .inl (cI, 22, .inl (upd f51 x1.toNatClampNeg (f51 x2.toNatClampNeg)))), ((r 52), .inl (cI, 22, .inl (upd f52 x1.toNatClampNeg (f52 x2.toNatClampNeg)))), ((r 53), .inl (cI, 22, .inl (upd f53 x1.toNatClampNeg (f53 x2.toNatClampNeg)))), ((r 54), .inl (cI, 1100, .inl (upd j62_A6 y_81.toNatClampNeg (j62_A6 y_91.toNatClampNeg)))), ((r 55), .inl (cI, 1100, .inl j62_A7)), ((r 56), .inl (cI, 1100, .inl j62_A8)), ((r 57), .inl (cI, 1100, .inl j62_A9))]) hx hb hK hP hD hS 6 0 rfl rfl (iR_vp f_81_5 (by decide +kernel)) rfl rfl dX7_copies_93 (fun H locs hP hD hS => ?_)
        refine lv_aload_n hx hb dX7_copies_94 rfl (lv_at hl 0 rfl) ?_
        refine k_get (D := (dC, dI)) (ci := 7) (v := .ref (r 55)) (C := RX7) (T := TX7) (N := 92) hx hb hts hinX7 hown hK hP 0 rfl rfl 55 (by decide) w_6 rfl rfl dX7_copies_95 ?_
        refine lv_bipush (v := 50) hx hb dX7_copies_98 (by decide +kernel) ?_
        refine lv_iload_n hx hb dX7_copies_100 rfl (lv_at hl 1 rfl) ?_
        refine lv_imul hx hb dX7_copies_101 ?_
        refine lv_topi (fun y_101 ey_101 => ?_)
        have f_101_8 : iR y_101 0 1050 := iR_mul ey_101 (iR_c (n := 50) (a := 50) (b := 50) (by decide +kernel) (by decide +kernel)) hx1 (by decide +kernel)
        refine lv_iload_n hx hb dX7_copies_102 rfl (lv_at hl 3 rfl) ?_
        refine lv_iadd hx hb dX7_copies_103 ?_
        refine lv_topi (fun y_103 ey_103 => ?_)
        have f_103_9 : iR y_103 0 1099 := iR_add ey_103 f_101_8 f_72_2 (by decide +kernel)
        refine lv_aload_n hx hb dX7_copies_104 rfl (lv_at hl 0 rfl) ?_
        refine k_get (D := (dC, dI)) (ci := 7) (v := .ref (r 55)) (C := RX7) (T := TX7) (N := 92) hx hb hts hinX7 hown hK hP 0 rfl rfl 55 (by decide) w_6 rfl rfl dX7_copies_105 ?_
        refine lv_bipush (v := 50) hx hb dX7_copies_108 (by decide +kernel) ?_
        refine lv_iload_n hx hb dX7_copies_110 rfl (lv_at hl 2 rfl) ?_
        refine lv_imul hx hb dX7_copies_111 ?_
        refine lv_topi (fun y_111 ey_111 => ?_)
        have f_111_10 : iR y_111 0 1050 := iR_mul ey_111 (iR_c (n := 50) (a := 50) (b := 50) (by decide +kernel) (by decide +kernel)) hx2 (by decide +kernel)
        refine lv_iload_n hx hb dX7_copies_112 rfl (lv_at hl 3 rfl) ?_
        refine lv_iadd hx hb dX7_copies_113 ?_
        refine lv_topi (fun y_113 ey_113 => ?_)
        have f_113_11 : iR y_113 0 1099 := iR_add ey_113 f_111_10 f_72_2 (by decide +kernel)
        refine va_iald hx hb hK hP 7 0 rfl rfl (iR_vp f_113_11 (by decide +kernel)) dX7_copies_114 ?_
        refine s_iast (g := (upd j62_A7 y_103.toNatClampNeg (j62_A7 y_113.toNatClampNeg))) (ws' := [(h, .inr (7, oM r i j)), ((r 49), .inl (cI, 22, .inl (upd f49 x1.toNatClampNeg (f49 x2.toNatClampNeg)))), ((r 50), .inl (cI, 22, .inl (upd f50 x1.toNatClampNeg (f50 x2.toNatClampNeg)))), ((r 51), .inl (cI, 22, .inl (upd f51 x1.toNatClampNeg (f51 x2.toNatClampNeg)))), ((r 52), .inl (cI, 22, .inl (upd f52 x1.toNatClampNeg (f52 x2.toNatClampNeg)))), ((r 53), .inl (cI, 22, .inl (upd f53 x1.toNatClampNeg (f53 x2.toNatClampNeg)))), ((r 54), .inl (cI, 1100, .inl (upd j62_A6 y_81.toNatClampNeg (j62_A6 y_91.toNatClampNeg)))), ((r 55), .inl (cI, 1100, .inl (upd j62_A7 y_103.toNatClampNeg (j62_A7 y_113.toNatClampNeg)))), ((r 56), .inl (cI, 1100, .inl j62_A8)), ((r 57), .inl (cI, 1100, .inl j62_A9))]) hx hb hK hP hD hS 7 0 rfl rfl (iR_vp f_103_9 (by decide +kernel)) rfl rfl dX7_copies_115 (fun H locs hP hD hS => ?_)
        refine lv_aload_n hx hb dX7_copies_116 rfl (lv_at hl 0 rfl) ?_
        refine k_get (D := (dC, dI)) (ci := 7) (v := .ref (r 56)) (C := RX7) (T := TX7) (N := 92) hx hb hts hinX7 hown hK hP 0 rfl rfl 56 (by decide) w_7 rfl rfl dX7_copies_117 ?_
        refine lv_bipush (v := 50) hx hb dX7_copies_120 (by decide +kernel) ?_
        refine lv_iload_n hx hb dX7_copies_122 rfl (lv_at hl 1 rfl) ?_
        refine lv_imul hx hb dX7_copies_123 ?_
        refine lv_topi (fun y_123 ey_123 => ?_)
        have f_123_12 : iR y_123 0 1050 := iR_mul ey_123 (iR_c (n := 50) (a := 50) (b := 50) (by decide +kernel) (by decide +kernel)) hx1 (by decide +kernel)
        refine lv_iload_n hx hb dX7_copies_124 rfl (lv_at hl 3 rfl) ?_
        refine lv_iadd hx hb dX7_copies_125 ?_
        refine lv_topi (fun y_125 ey_125 => ?_)
        have f_125_13 : iR y_125 0 1099 := iR_add ey_125 f_123_12 f_72_2 (by decide +kernel)
        refine lv_aload_n hx hb dX7_copies_126 rfl (lv_at hl 0 rfl) ?_
        refine k_get (D := (dC, dI)) (ci := 7) (v := .ref (r 56)) (C := RX7) (T := TX7) (N := 92) hx hb hts hinX7 hown hK hP 0 rfl rfl 56 (by decide) w_7 rfl rfl dX7_copies_127 ?_
        refine lv_bipush (v := 50) hx hb dX7_copies_130 (by decide +kernel) ?_
        refine lv_iload_n hx hb dX7_copies_132 rfl (lv_at hl 2 rfl) ?_
        refine lv_imul hx hb dX7_copies_133 ?_
        refine lv_topi (fun y_133 ey_133 => ?_)
        have f_133_14 : iR y_133 0 1050 := iR_mul ey_133 (iR_c (n := 50) (a := 50) (b := 50) (by decide +kernel) (by decide +kernel)) hx2 (by decide +kernel)
        refine lv_iload_n hx hb dX7_copies_134 rfl (lv_at hl 3 rfl) ?_
        refine lv_iadd hx hb dX7_copies_135 ?_
        refine lv_topi (fun y_135 ey_135 => ?_)
        have f_135_15 : iR y_135 0 1099 := iR_add ey_135 f_133_14 f_72_2 (by decide +kernel)
        refine va_iald hx hb hK hP 8 0 rfl rfl (iR_vp f_135_15 (by decide +kernel)) dX7_copies_136 ?_
        refine s_iast (g := (upd j62_A8 y_125.toNatClampNeg (j62_A8 y_135.toNatClampNeg))) (ws' := [(h, .inr (7, oM r i j)), ((r 49), .inl (cI, 22, .inl (upd f49 x1.toNatClampNeg (f49 x2.toNatClampNeg)))), ((r 50), .inl (cI, 22, .inl (upd f50 x1.toNatClampNeg (f50 x2.toNatClampNeg)))), ((r 51), .inl (cI, 22, .inl (upd f51 x1.toNatClampNeg (f51 x2.toNatClampNeg)))), ((r 52), .inl (cI, 22, .inl (upd f52 x1.toNatClampNeg (f52 x2.toNatClampNeg)))), ((r 53), .inl (cI, 22, .inl (upd f53 x1.toNatClampNeg (f53 x2.toNatClampNeg)))), ((r 54), .inl (cI, 1100, .inl (upd j62_A6 y_81.toNatClampNeg (j62_A6 y_91.toNatClampNeg)))), ((r 55), .inl (cI, 1100, .inl (upd j62_A7 y_103.toNatClampNeg (j62_A7 y_113.toNatClampNeg)))), ((r 56), .inl (cI, 1100, .inl (upd j62_A8 y_125.toNatClampNeg (j62_A8 y_135.toNatClampNeg)))), ((r 57), .inl (cI, 1100, .inl j62_A9))]) hx hb hK hP hD hS 8 0 rfl rfl (iR_vp f_125_13 (by decide +kernel)) rfl rfl dX7_copies_137 (fun H locs hP hD hS => ?_)
        refine lv_aload_n hx hb dX7_copies_138 rfl (lv_at hl 0 rfl) ?_
        refine k_get (D := (dC, dI)) (ci := 7) (v := .ref (r 57)) (C := RX7) (T := TX7) (N := 92) hx hb hts hinX7 hown hK hP 0 rfl rfl 57 (by decide) w_8 rfl rfl dX7_copies_139 ?_
        refine lv_bipush (v := 50) hx hb dX7_copies_142 (by decide +kernel) ?_
        refine lv_iload_n hx hb dX7_copies_144 rfl (lv_at hl 1 rfl) ?_
        refine lv_imul hx hb dX7_copies_145 ?_
        refine lv_topi (fun y_145 ey_145 => ?_)
        have f_145_16 : iR y_145 0 1050 := iR_mul ey_145 (iR_c (n := 50) (a := 50) (b := 50) (by decide +kernel) (by decide +kernel)) hx1 (by decide +kernel)
        refine lv_iload_n hx hb dX7_copies_146 rfl (lv_at hl 3 rfl) ?_
        refine lv_iadd hx hb dX7_copies_147 ?_
        refine lv_topi (fun y_147 ey_147 => ?_)
        have f_147_17 : iR y_147 0 1099 := iR_add ey_147 f_145_16 f_72_2 (by decide +kernel)
        refine lv_aload_n hx hb dX7_copies_148 rfl (lv_at hl 0 rfl) ?_
        refine k_get (D := (dC, dI)) (ci := 7) (v := .ref (r 57)) (C := RX7) (T := TX7) (N := 92) hx hb hts hinX7 hown hK hP 0 rfl rfl 57 (by decide) w_8 rfl rfl dX7_copies_149 ?_
        refine lv_bipush (v := 50) hx hb dX7_copies_152 (by decide +kernel) ?_
        refine lv_iload_n hx hb dX7_copies_154 rfl (lv_at hl 2 rfl) ?_
        refine lv_imul hx hb dX7_copies_155 ?_
        refine lv_topi (fun y_155 ey_155 => ?_)
        have f_155_18 : iR y_155 0 1050 := iR_mul ey_155 (iR_c (n := 50) (a := 50) (b := 50) (by decide +kernel) (by decide +kernel)) hx2 (by decide +kernel)
        refine lv_iload_n hx hb dX7_copies_156 rfl (lv_at hl 3 rfl) ?_
        refine lv_iadd hx hb dX7_copies_157 ?_
        refine lv_topi (fun y_157 ey_157 => ?_)
        have f_157_19 : iR y_157 0 1099 := iR_add ey_157 f_155_18 f_72_2 (by decide +kernel)
        refine va_iald hx hb hK hP 9 0 rfl rfl (iR_vp f_157_19 (by decide +kernel)) dX7_copies_158 ?_
        refine s_iast (g := (upd j62_A9 y_147.toNatClampNeg (j62_A9 y_157.toNatClampNeg))) (ws' := [(h, .inr (7, oM r i j)), ((r 49), .inl (cI, 22, .inl (upd f49 x1.toNatClampNeg (f49 x2.toNatClampNeg)))), ((r 50), .inl (cI, 22, .inl (upd f50 x1.toNatClampNeg (f50 x2.toNatClampNeg)))), ((r 51), .inl (cI, 22, .inl (upd f51 x1.toNatClampNeg (f51 x2.toNatClampNeg)))), ((r 52), .inl (cI, 22, .inl (upd f52 x1.toNatClampNeg (f52 x2.toNatClampNeg)))), ((r 53), .inl (cI, 22, .inl (upd f53 x1.toNatClampNeg (f53 x2.toNatClampNeg)))), ((r 54), .inl (cI, 1100, .inl (upd j62_A6 y_81.toNatClampNeg (j62_A6 y_91.toNatClampNeg)))), ((r 55), .inl (cI, 1100, .inl (upd j62_A7 y_103.toNatClampNeg (j62_A7 y_113.toNatClampNeg)))), ((r 56), .inl (cI, 1100, .inl (upd j62_A8 y_125.toNatClampNeg (j62_A8 y_135.toNatClampNeg)))), ((r 57), .inl (cI, 1100, .inl (upd j62_A9 y_147.toNatClampNeg (j62_A9 y_157.toNatClampNeg))))]) hx hb hK hP hD hS 9 0 rfl rfl (iR_vp f_147_17 (by decide +kernel)) rfl rfl dX7_copies_159 (fun H locs hP hD hS => ?_)
        obtain ⟨y_160, ey_160⟩ : ∃ y : Int32, y = j62_L3 + 1 := ⟨_, rfl⟩
        refine lv_iinc (v := y_160) (lv' := [(3, .int y_160), (0, .ref h), (1, .int x1), (2, .int x2)]) hx hb dX7_copies_160 hl (k := 3) rfl ey_160.symm (by decide) rfl (fun ls hl => ?_)
        have f_160_20 : iR y_160 1 50 := iR_add ey_160 f_72_2 (iR_c (n := 1) (a := 1) (b := 1) (by decide +kernel) (by decide +kernel)) (by decide +kernel)
        refine lv_goto (tgt := 62) hx hb dX7_copies_163 (by decide) ?_
        exact ih_62 (upd j62_A6 y_81.toNatClampNeg (j62_A6 y_91.toNatClampNeg)) (upd j62_A7 y_103.toNatClampNeg (j62_A7 y_113.toNatClampNeg)) (upd j62_A8 y_125.toNatClampNeg (j62_A8 y_135.toNatClampNeg)) (upd j62_A9 y_147.toNatClampNeg (j62_A9 y_157.toNatClampNeg)) y_160 (iR_w f_160_20 (by decide +kernel)) (m_up (B := 50) hm_62 ey_160 f_72_2 (by decide +kernel)) H locs ls hP hD hS (lv_sub hl [1, 2, 3, 0] rfl)
  refine lv_istore_n (lv' := [(3, .int 0), (0, .ref h), (1, .int x1), (2, .int x2)]) hx hb dX7_copies_61 rfl hl (by decide) rfl (fun ls hl => ?_)
  exact J_62 _ f54 f55 f56 f57 0 (iR_c (n := 0) (a := 0) (b := 50) (by decide +kernel) (by decide +kernel)) (Nat.lt_succ_self _) H locs ls hP hD hS (lv_sub hl [1, 2, 3, 0] rfl)
