set_option maxHeartbeats 8000000 in
set_option maxRecDepth 100000 in
theorem s_X7_asksLayer_v0 (l : Launch) (dC : Nat → ClassId) (dI : Nat → Nat → Nat) (cI cJ cZ cM : ClassId) (h : Nat) (r : Nat → Nat) (i : Nat → Int32) (j : Nat → Int64) (x1 : Int32) (f49 : Nat → Int32) (f50 : Nat → Int32) (f51 : Nat → Int32) (f52 : Nat → Int32) (hx1 : iR x1 0 21) (hI : mR i) (hf49 : aR f49 0 1023) (hf50 : aR f50 0 999) : k_Mv l yX7_asksLayer wsX7_asksLayer ({ frames := 2, cells := 0, slots := 0, locals := 64 }) (dC, dI) vwCl (tyy cI cJ cZ cM) [(h, .inr (7, oM r i j)), ((r 49), .inl (cI, 22, .inl f49)), ((r 50), .inl (cI, 22, .inl f50)), ((r 51), .inl (cI, 22, .inl f51)), ((r 52), .inl (cI, 22, .inl f52))] [.ref h, .int x1] 0 0 (fun (u9 : Unit) => [(h, .inr (7, oM r (upd (upd (upd (upd i 62 (f49 x1.toNatClampNeg)) 63 (f50 x1.toNatClampNeg)) 64 (f51 x1.toNatClampNeg)) 65 (f52 x1.toNatClampNeg)) j)), ((r 49), .inl (cI, 22, .inl f49)), ((r 50), .inl (cI, 22, .inl f50)), ((r 51), .inl (cI, 22, .inl f51)), ((r 52), .inl (cI, 22, .inl f52))]) (fun (u9 : Unit) => True) := by
  refine fun sz => k_enter (cc := cX7_asksLayer) (maxL := 2) (ret := none) (Qc := fun A => va_Qv (fun (u9 : Unit) => True) (fun u => k_B (dC, dI) vwCl (tyy cI cJ cZ cM) A ((fun (u9 : Unit) => [(h, .inr (7, oM r (upd (upd (upd (upd i 62 (f49 x1.toNatClampNeg)) 63 (f50 x1.toNatClampNeg)) 64 (f51 x1.toNatClampNeg)) 65 (f52 x1.toNatClampNeg)) j)), ((r 49), .inl (cI, 22, .inl f49)), ((r 50), .inl (cI, 22, .inl f50)), ((r 51), .inl (cI, 22, .inl f51)), ((r 52), .inl (cI, 22, .inl f52))]) u)) A) sz (by decide +kernel) rfl (Nat.le_of_ble_eq_true rfl) (fun p e s m args below meth c A ls H locs B hP hD hS hl => ?_)
  obtain ⟨hx, hb, hml, hown, hts, hr, hlk, hnm, hK, hA, hN, hC⟩ := id B
  have hown : s.vm.findClass RX7 = some m.cls := hown
  have hl : lv_has ls 2 [(0, .ref h), (1, .int x1)] := hl
  have w_0 : (Cond.fieldLink RX7 162 "WishSeaModel" "hadOf" "[I").before args s = true := hts _ (List.mem_of_getElem? (i := 1) rfl)
  have w_1 : (Cond.fieldLink RX7 165 "WishSeaModel" "seaOf" "[I").before args s = true := hts _ (List.mem_of_getElem? (i := 2) rfl)
  have w_2 : (Cond.fieldLink RX7 168 "WishSeaModel" "saidOf" "[I").before args s = true := hts _ (List.mem_of_getElem? (i := 3) rfl)
  have w_3 : (Cond.fieldLink RX7 171 "WishSeaModel" "dayOf" "[I").before args s = true := hts _ (List.mem_of_getElem? (i := 4) rfl)
  have hinX7 : ∀ w ∈ u_ws RX7 TX7 92, w ∈ wsX7_asksLayer := fun _ h => List.mem_cons_of_mem _ (List.mem_append_right _ h)
  refine lv_aload_n hx hb dX7_asksLayer_0 rfl (lv_at hl 0 rfl) ?_
  refine lv_aload_n hx hb dX7_asksLayer_1 rfl (lv_at hl 0 rfl) ?_
  refine k_get (D := (dC, dI)) (ci := 7) (v := .ref (r 49)) (C := RX7) (T := TX7) (N := 92) hx hb hts hinX7 hown hK hP 0 rfl rfl 49 (by decide) w_0 rfl rfl dX7_asksLayer_2 ?_
  refine lv_iload_n hx hb dX7_asksLayer_5 rfl (lv_at hl 1 rfl) ?_
  refine va_iald hx hb hK hP 1 0 rfl rfl (iR_vp hx1 (by decide +kernel)) dX7_asksLayer_6 ?_
  have f_6_1 : iR (f49 x1.toNatClampNeg) 0 1023 := hf49 _
  refine lv_aload_n hx hb dX7_asksLayer_7 rfl (lv_at hl 0 rfl) ?_
  refine k_get (D := (dC, dI)) (ci := 7) (v := .ref (r 50)) (C := RX7) (T := TX7) (N := 92) hx hb hts hinX7 hown hK hP 0 rfl rfl 50 (by decide) w_1 rfl rfl dX7_asksLayer_8 ?_
  refine lv_iload_n hx hb dX7_asksLayer_11 rfl (lv_at hl 1 rfl) ?_
  refine va_iald hx hb hK hP 2 0 rfl rfl (iR_vp hx1 (by decide +kernel)) dX7_asksLayer_12 ?_
  have f_12_2 : iR (f50 x1.toNatClampNeg) 0 999 := hf50 _
  refine lv_aload_n hx hb dX7_asksLayer_13 rfl (lv_at hl 0 rfl) ?_
  refine k_get (D := (dC, dI)) (ci := 7) (v := .ref (r 51)) (C := RX7) (T := TX7) (N := 92) hx hb hts hinX7 hown hK hP 0 rfl rfl 51 (by decide) w_2 rfl rfl dX7_asksLayer_14 ?_
  refine lv_iload_n hx hb dX7_asksLayer_17 rfl (lv_at hl 1 rfl) ?_
  refine va_iald hx hb hK hP 3 0 rfl rfl (iR_vp hx1 (by decide +kernel)) dX7_asksLayer_18 ?_
  refine lv_aload_n hx hb dX7_asksLayer_19 rfl (lv_at hl 0 rfl) ?_
  refine k_get (D := (dC, dI)) (ci := 7) (v := .ref (r 52)) (C := RX7) (T := TX7) (N := 92) hx hb hts hinX7 hown hK hP 0 rfl rfl 52 (by decide) w_3 rfl rfl dX7_asksLayer_20 ?_
  refine lv_iload_n hx hb dX7_asksLayer_23 rfl (lv_at hl 1 rfl) ?_
  refine va_iald hx hb hK hP 4 0 rfl rfl (iR_vp hx1 (by decide +kernel)) dX7_asksLayer_24 ?_
  refine k_cv (wc := [(h, .inr (7, oM r i j))]) (wr := [((r 49), .inl (cI, 22, .inl f49)), ((r 50), .inl (cI, 22, .inl f50)), ((r 51), .inl (cI, 22, .inl f51)), ((r 52), .inl (cI, 22, .inl f52))]) (fun hPc hDc hFc => va_runV (As := [.int (f49 x1.toNatClampNeg), .int (f50 x1.toNatClampNeg), .int (f51 x1.toNatClampNeg), .int (f52 x1.toNatClampNeg)]) (rest := []) ⟨hx, hb, hml, hown, hts⟩ (s_X7_asks_v0 l dC dI cI cJ cZ cM h r i j (f49 x1.toNatClampNeg) (f50 x1.toNatClampNeg) (f51 x1.toNatClampNeg) (f52 x1.toNatClampNeg) hI H.size) (cwV 4 hts gX7_asksLayer_X7_asks rfl rfl rfl (by decide +kernel) ⟨(Nat.le_of_ble_eq_true rfl), (Nat.le_of_ble_eq_true rfl)⟩) (k_pV hPc hDc hK hN hC hS hFc hP (q0 := 0) (ci := 7) rfl rfl) rfl rfl hl.1 rfl (lv_room (Nat.le_of_ble_eq_true rfl)) dX7_asksLayer_25 ⟨(Nat.le_of_ble_eq_true rfl), (Nat.le_of_ble_eq_true rfl)⟩) hP hD hS hA [0] [1, 2, 3, 4] rfl rfl rfl rfl (by decide) (fun _ => rfl) 0 0 rfl rfl (fun u_25 H locs hw hP hD hS => ?_)
  have hP : va_P (dC, dI) vwCl [((r 49), .inl (cI, 22, .inl f49)), ((r 50), .inl (cI, 22, .inl f50)), ((r 51), .inl (cI, 22, .inl f51)), ((r 52), .inl (cI, 22, .inl f52)), (h, .inr (7, oM r (upd (upd (upd (upd i 62 (f49 x1.toNatClampNeg)) 63 (f50 x1.toNatClampNeg)) 64 (f51 x1.toNatClampNeg)) 65 (f52 x1.toNatClampNeg)) j))] H := hP
  have hD : va_D A [((r 49), .inl (cI, 22, .inl f49)), ((r 50), .inl (cI, 22, .inl f50)), ((r 51), .inl (cI, 22, .inl f51)), ((r 52), .inl (cI, 22, .inl f52)), (h, .inr (7, oM r (upd (upd (upd (upd i 62 (f49 x1.toNatClampNeg)) 63 (f50 x1.toNatClampNeg)) 64 (f51 x1.toNatClampNeg)) 65 (f52 x1.toNatClampNeg)) j))] := hD
  exact k_rv B hP hD hS dX7_asksLayer_28 () [4, 0, 1, 2, 3] rfl rfl (Nat.le_of_ble_eq_true rfl) (Nat.le_of_ble_eq_true rfl) trivial
set_option maxHeartbeats 8000000 in
set_option maxRecDepth 100000 in
theorem s_X7_holds_v0 (l : Launch) (dC : Nat → ClassId) (dI : Nat → Nat → Nat) (cI cJ cZ cM : ClassId) (x0 : Int32) (x1 : Int32)  : k_Mi l yX7_holds wsX7_holds ({ frames := 1, cells := 0, slots := 0, locals := 40 }) (dC, dI) vwCl (tyy cI cJ cZ cM) [] [.int x0, .int x1] 0 0 (fun (u9 : Unit) => []) (fun (r9 : Int32) (u9 : Unit) => (iR r9 0 1) ∧ (r9 = hof x0 x1)) := by
  refine fun sz => k_enter (cc := cX7_holds) (maxL := 2) (ret := some (.boolean)) (Qc := fun A => va_Qi (fun (r9 : Int32) (u9 : Unit) => (iR r9 0 1) ∧ (r9 = hof x0 x1)) (fun u => k_B (dC, dI) vwCl (tyy cI cJ cZ cM) A ((fun (u9 : Unit) => []) u)) A) sz (by decide +kernel) rfl (Nat.le_of_ble_eq_true rfl) (fun p e s m args below meth c A ls H locs B hP hD hS hl => ?_)
  obtain ⟨hx, hb, hml, hown, hts, hr, hlk, hnm, hK, hA, hN, hC⟩ := id B
  have hown : s.vm.findClass RX7 = some m.cls := hown
  have hl : lv_has ls 2 [(0, .int x0), (1, .int x1)] := hl
  refine lv_iload_n hx hb dX7_holds_0 rfl (lv_at hl 0 rfl) ?_
  refine lv_iload_n hx hb dX7_holds_1 rfl (lv_at hl 1 rfl) ?_
  refine lv_ishr hx hb dX7_holds_2 ?_
  refine lv_topi (fun y_2 ey_2 => ?_)
  refine lv_iconst (v := 1) hx hb dX7_holds_3 (by decide +kernel) ?_
  refine lv_iand hx hb dX7_holds_4 ?_
  refine lv_topi (fun y_4 ey_4 => ?_)
  have f_4_1 : iR y_4 0 1 := iR_andR ey_4 (iR_c (n := 1) (a := 1) (b := 1) (by decide +kernel) (by decide +kernel)) (by decide +kernel)
  refine lv_iconst (v := 1) hx hb dX7_holds_5 (by decide +kernel) ?_
  refine lv_icmp_ne (tgt := 13) hx hb dX7_holds_6 (by decide) (fun c_6 => ?_) (fun c_6 => ?_)
  · have c_6 : ¬ y_4 = 1 := c_6
    have f_13_2 : iR y_4 0 0 := iR_neL c_6 f_4_1 (iR_c (n := 1) (a := 1) (b := 1) (by decide +kernel) (by decide +kernel)) (by decide +kernel)
    refine lv_iconst (v := 0) hx hb dX7_holds_13 (by decide +kernel) ?_
    exact k_ri B hP hD hS dX7_holds_14 () [] rfl rfl rfl (Nat.le_of_ble_eq_true rfl) (Nat.le_of_ble_eq_true rfl) ⟨(show iR 0 0 1 from (iR_c (n := 0) (a := 0) (b := 1) (by decide +kernel) (by decide +kernel))), (show 0 = hof x0 x1 from (by unfold hof; rw [← ey_2, ← ey_4, if_neg c_6]))⟩
  · have c_6 : y_4 = 1 := c_6
    have f_9_2 : iR y_4 1 1 := iR_eqL c_6 f_4_1 (iR_c (n := 1) (a := 1) (b := 1) (by decide +kernel) (by decide +kernel)) (by decide +kernel)
    refine lv_iconst (v := 1) hx hb dX7_holds_9 (by decide +kernel) ?_
    refine lv_goto (tgt := 14) hx hb dX7_holds_10 (by decide) ?_
    exact k_ri B hP hD hS dX7_holds_14 () [] rfl rfl rfl (Nat.le_of_ble_eq_true rfl) (Nat.le_of_ble_eq_true rfl) ⟨(show iR 1 0 1 from (iR_c (n := 1) (a := 0) (b := 1) (by decide +kernel) (by decide +kernel))), (show 1 = hof x0 x1 from (by unfold hof; rw [← ey_2, ← ey_4, if_pos c_6]))⟩
set_option maxHeartbeats 8000000 in
set_option maxRecDepth 100000 in
theorem s_X7_worthOf_v0 (l : Launch) (dC : Nat → ClassId) (dI : Nat → Nat → Nat) (cI cJ cZ cM : ClassId) (h : Nat) (r : Nat → Nat) (i : Nat → Int32) (j : Nat → Int64) (x1 : Int32) (f14 : Nat → Int32) (f15 : Nat → Int32) (hI : mR i) (hf14 : aR f14 0 10) (hf15 : aR f15 0 9999) : k_Mi l yX7_worthOf wsX7_worthOf ({ frames := 2, cells := 0, slots := 0, locals := 61 }) (dC, dI) vwCl (tyy cI cJ cZ cM) [(h, .inr (7, oM r i j)), ((r 14), .inl (cI, 2, .inl f14)), ((r 15), .inl (cI, 20, .inl f15))] [.ref h, .int x1] 0 0 (fun (u9 : Unit) => [(h, .inr (7, oM r i j)), ((r 14), .inl (cI, 2, .inl f14)), ((r 15), .inl (cI, 20, .inl f15))]) (fun (r9 : Int32) (u9 : Unit) => (iR r9 0 99990) ∧ (r9 = wof f15 (i 13).toNatClampNeg x1 (f14 (i 13).toNatClampNeg).toNatClampNeg)) := by
  refine fun sz => k_enter (cc := cX7_worthOf) (maxL := 4) (ret := some (.int)) (Qc := fun A => va_Qi (fun (r9 : Int32) (u9 : Unit) => (iR r9 0 99990) ∧ (r9 = wof f15 (i 13).toNatClampNeg x1 (f14 (i 13).toNatClampNeg).toNatClampNeg)) (fun u => k_B (dC, dI) vwCl (tyy cI cJ cZ cM) A ((fun (u9 : Unit) => [(h, .inr (7, oM r i j)), ((r 14), .inl (cI, 2, .inl f14)), ((r 15), .inl (cI, 20, .inl f15))]) u)) A) sz (by decide +kernel) rfl (Nat.le_of_ble_eq_true rfl) (fun p e s m args below meth c A ls H locs B hP hD hS hl => ?_)
  obtain ⟨hx, hb, hml, hown, hts, hr, hlk, hnm, hK, hA, hN, hC⟩ := id B
  have hown : s.vm.findClass RX7 = some m.cls := hown
  have hl : lv_has ls 4 [(0, .ref h), (1, .int x1)] := hl
  have w_0 : (Cond.fieldLink RX7 54 "WishSeaModel" "things" "[I").before args s = true := hts _ (List.mem_of_getElem? (i := 1) rfl)
  have w_1 : (Cond.fieldLink RX7 51 "WishSeaModel" "bank" "I").before args s = true := hts _ (List.mem_of_getElem? (i := 2) rfl)
  have w_2 : (Cond.fieldLink RX7 57 "WishSeaModel" "thingWorth" "[I").before args s = true := hts _ (List.mem_of_getElem? (i := 3) rfl)
  have hinX7 : ∀ w ∈ u_ws RX7 TX7 92, w ∈ wsX7_worthOf := fun _ h => List.mem_cons_of_mem _ (List.mem_append_right _ h)
  refine lv_iconst (v := 0) hx hb dX7_worthOf_0 (by decide +kernel) ?_
  refine lv_istore_n (lv' := [(2, .int 0), (0, .ref h), (1, .int x1)]) hx hb dX7_worthOf_1 rfl hl (by decide) rfl (fun ls hl => ?_)
  refine lv_iconst (v := 0) hx hb dX7_worthOf_2 (by decide +kernel) ?_
  have J_4 : ∀ (n_4 : Nat) (j4_L2 : Int32) (j4_L3 : Int32) (hj4_L2 : iR j4_L2 0 99990) (hj4_L3 : iR j4_L3 0 10) (v4_0 : j4_L3 ≤ (f14 (i 13).toNatClampNeg)) (p4_0 : j4_L2 = wof f15 (i 13).toNatClampNeg x1 j4_L3.toNatClampNeg) (p4_1 : 0 ≤ j4_L2.toInt ∧ j4_L2.toInt ≤ 9999 * j4_L3.toInt) (hm_4 : (10 - j4_L3.toInt).toNat < n_4) (H : Heap) (locs : List Loc) (ls : Array Slot), va_P (dC, dI) vwCl [(h, .inr (7, oM r i j)), ((r 14), .inl (cI, 2, .inl f14)), ((r 15), .inl (cI, 20, .inl f15))] H → va_D A [(h, .inr (7, oM r i j)), ((r 14), .inl (cI, 2, .inl f14)), ((r 15), .inl (cI, 20, .inl f15))] → va_S A s.heap H locs → lv_has ls 4 [(0, .ref h), (1, .int x1), (2, .int j4_L2), (3, .int j4_L3)] → W p l e ({ frames := 2, cells := 0, slots := 0, locals := 61 }) s m args below meth c H locs 0 0 (MQ below (va_Qi (fun (r9 : Int32) (u9 : Unit) => (iR r9 0 99990) ∧ (r9 = wof f15 (i 13).toNatClampNeg x1 (f14 (i 13).toNatClampNeg).toNatClampNeg)) (fun u => k_B (dC, dI) vwCl (tyy cI cJ cZ cM) A ((fun (u9 : Unit) => [(h, .inr (7, oM r i j)), ((r 14), .inl (cI, 2, .inl f14)), ((r 15), .inl (cI, 20, .inl f15))]) u)) A) args s 0 0 A) (F0 m 4 ls []) := by
    intro n_4
    induction n_4 with
    | zero => intro j4_L2 j4_L3 hj4_L2 hj4_L3 v4_0 p4_0 p4_1 hm_4; exact absurd hm_4 (Nat.not_lt_zero _)
    | succ n_4 ih_4 =>
      intro j4_L2 j4_L3 hj4_L2 hj4_L3 v4_0 p4_0 p4_1 hm_4 H locs ls hP hD hS hl
      refine lv_iload_n hx hb dX7_worthOf_4 rfl (lv_at hl 3 rfl) ?_
      refine lv_aload_n hx hb dX7_worthOf_5 rfl (lv_at hl 0 rfl) ?_
      refine k_get (D := (dC, dI)) (ci := 7) (v := .ref (r 14)) (C := RX7) (T := TX7) (N := 92) hx hb hts hinX7 hown hK hP 0 rfl rfl 14 (by decide) w_0 rfl rfl dX7_worthOf_6 ?_
      refine lv_aload_n hx hb dX7_worthOf_9 rfl (lv_at hl 0 rfl) ?_
      have f_10_1 : iR (i 13) 0 1 := hI 13
      refine k_get (D := (dC, dI)) (ci := 7) (v := .int (i 13)) (C := RX7) (T := TX7) (N := 92) hx hb hts hinX7 hown hK hP 0 rfl rfl 13 (by decide) w_1 rfl rfl dX7_worthOf_10 ?_
      refine va_iald hx hb hK hP 1 0 rfl rfl (iR_vp f_10_1 (by decide +kernel)) dX7_worthOf_13 ?_
      have f_13_2 : iR (f14 (i 13).toNatClampNeg) 0 10 := hf14 _
      refine lv_icmp_ge (tgt := 52) hx hb dX7_worthOf_14 (by decide) (fun c_14 => ?_) (fun c_14 => ?_)
      · have c_14 : (f14 (i 13).toNatClampNeg) ≤ j4_L3 := c_14
        refine lv_iload_n hx hb dX7_worthOf_52 rfl (lv_at hl 2 rfl) ?_
        exact k_ri B hP hD hS dX7_worthOf_53 () [0, 1, 2] rfl rfl rfl (Nat.le_of_ble_eq_true rfl) (Nat.le_of_ble_eq_true rfl) ⟨(show iR j4_L2 0 99990 from hj4_L2), (show j4_L2 = wof f15 (i 13).toNatClampNeg x1 (f14 (i 13).toNatClampNeg).toNatClampNeg from (by rw [← i_anti v4_0 c_14]; exact p4_0))⟩
      · have c_14 : j4_L3 < (f14 (i 13).toNatClampNeg) := i_nle c_14
        have f_17_3 : iR j4_L3 0 9 := iR_ltL c_14 hj4_L3 f_13_2 (by decide +kernel)
        have f_17_4 : iR (f14 (i 13).toNatClampNeg) 1 10 := iR_ltR c_14 hj4_L3 f_13_2 (by decide +kernel)
        refine lv_iload_n hx hb dX7_worthOf_17 rfl (lv_at hl 2 rfl) ?_
        refine lv_iload_n hx hb dX7_worthOf_18 rfl (lv_at hl 1 rfl) ?_
        refine lv_iload_n hx hb dX7_worthOf_19 rfl (lv_at hl 3 rfl) ?_
        refine k_ci (wc := []) (wr := [(h, .inr (7, oM r i j)), ((r 14), .inl (cI, 2, .inl f14)), ((r 15), .inl (cI, 20, .inl f15))]) (fun hPc hDc hFc => va_runS (As := [.int x1, .int j4_L3]) (rest := [.int j4_L2]) ⟨hx, hb, hml, hown, hts⟩ (s_X7_holds_v0 l dC dI cI cJ cZ cM x1 j4_L3 H.size) (va_cwS 2 hts gX7_worthOf_X7_holds rfl rfl rfl (by decide +kernel) ⟨(Nat.le_of_ble_eq_true rfl), (Nat.le_of_ble_eq_true rfl)⟩) (k_pS hPc hDc hK hN hC hS hFc) rfl rfl hl.1 rfl (lv_room (Nat.le_of_ble_eq_true rfl)) dX7_worthOf_20 ⟨(Nat.le_of_ble_eq_true rfl), (Nat.le_of_ble_eq_true rfl)⟩) hP hD hS hA [] [0, 1, 2] rfl rfl rfl rfl (by decide) (fun _ => rfl) 0 0 rfl rfl (fun r_20 u_20 H locs hw hP hD hS => ?_)
        obtain ⟨g_20_0, g_20_1⟩ := hw
        have hP : va_P (dC, dI) vwCl [(h, .inr (7, oM r i j)), ((r 14), .inl (cI, 2, .inl f14)), ((r 15), .inl (cI, 20, .inl f15))] H := hP
        have hD : va_D A [(h, .inr (7, oM r i j)), ((r 14), .inl (cI, 2, .inl f14)), ((r 15), .inl (cI, 20, .inl f15))] := hD
        have g_20_1 : r_20 = hof x1 j4_L3 := g_20_1
        refine lv_if_eq (tgt := 43) hx hb dX7_worthOf_23 (by decide) (fun c_23 => ?_) (fun c_23 => ?_)
        · have c_23 : r_20 = 0 := c_23
          have f_43_5 : iR r_20 0 0 := iR_eqL c_23 g_20_0 (iR_c (n := 0) (a := 0) (b := 0) (by decide +kernel) (by decide +kernel)) (by decide +kernel)
          refine lv_iconst (v := 0) hx hb dX7_worthOf_43 (by decide +kernel) ?_
          refine lv_iadd hx hb dX7_worthOf_44 ?_
          refine lv_topi (fun y_44p43 ey_44p43 => ?_)
          have xy_44p43 : y_44p43.toInt = j4_L2.toInt + 0 := i_add ey_44p43 hj4_L2 (iR_c (n := 0) (a := 0) (b := 0) (by decide +kernel) (by decide +kernel)) (by decide +kernel)
          have f_44p43_6 : iR y_44p43 0 99990 := iR_add ey_44p43 hj4_L2 (iR_c (n := 0) (a := 0) (b := 0) (by decide +kernel) (by decide +kernel)) (by decide +kernel)
          refine lv_istore_n (lv' := [(2, .int y_44p43), (0, .ref h), (1, .int x1), (3, .int j4_L3)]) hx hb dX7_worthOf_45 rfl hl (by decide) rfl (fun ls hl => ?_)
          obtain ⟨y_46p43, ey_46p43⟩ : ∃ y : Int32, y = j4_L3 + 1 := ⟨_, rfl⟩
          refine lv_iinc (v := y_46p43) (lv' := [(3, .int y_46p43), (2, .int y_44p43), (0, .ref h), (1, .int x1)]) hx hb dX7_worthOf_46 hl (k := 3) rfl ey_46p43.symm (by decide) rfl (fun ls hl => ?_)
          have f_46p43_7 : iR y_46p43 1 10 := iR_add ey_46p43 f_17_3 (iR_c (n := 1) (a := 1) (b := 1) (by decide +kernel) (by decide +kernel)) (by decide +kernel)
          have xy_46p43 : y_46p43.toInt = j4_L3.toInt + 1 := i_add ey_46p43 f_17_3 (iR_c (n := 1) (a := 1) (b := 1) (by decide +kernel) (by decide +kernel)) (by decide +kernel)
          refine lv_goto (tgt := 4) hx hb dX7_worthOf_49 (by decide) ?_
          exact ih_4 y_44p43 y_46p43 f_44p43_6 (iR_w f_46p43_7 (by decide +kernel)) (i_incle ey_46p43 c_14) (show y_44p43 = wof f15 (i 13).toNatClampNeg x1 y_46p43.toNatClampNeg from (wof_step f_17_3 (by decide +kernel) ey_46p43 p4_0 g_20_1 (Or.inl ⟨c_23, ey_44p43⟩))) (show 0 ≤ y_44p43.toInt ∧ y_44p43.toInt ≤ 9999 * y_46p43.toInt from (by have z := (show 0 ≤ y_44p43.toInt ∧ y_44p43.toInt ≤ 9999 * y_46p43.toInt ∧ y_44p43.toInt ≤ 99990 from by have p0 := p4_1; have z1 := i_add ey_44p43 hj4_L2 (iR_c (n := 0) (a := 0) (b := 0) (by decide +kernel) (by decide +kernel)) (by decide +kernel); have z2 := i_add ey_46p43 f_17_3 (iR_c (n := 1) (a := 1) (b := 1) (by decide +kernel) (by decide +kernel)) (by decide +kernel); have z3 : (1 : Int32).toInt = 1 := (by decide); have z4 : (0 : Int32).toInt = 0 := (by decide); have z5 := (iR_c (n := 0) (a := 0) (b := 0) (by decide +kernel) (by decide +kernel)); have z6 := f_17_3; unfold iR at z5 z6; omega); omega)) (m_up (B := 10) hm_4 ey_46p43 f_17_3 (by decide +kernel)) H locs ls hP hD hS (lv_sub hl [2, 3, 1, 0] rfl)
        · have c_23 : ¬ r_20 = 0 := c_23
          have f_26_5 : iR r_20 1 1 := iR_neL c_23 g_20_0 (iR_c (n := 0) (a := 0) (b := 0) (by decide +kernel) (by decide +kernel)) (by decide +kernel)
          refine lv_aload_n hx hb dX7_worthOf_26 rfl (lv_at hl 0 rfl) ?_
          refine k_get (D := (dC, dI)) (ci := 7) (v := .ref (r 15)) (C := RX7) (T := TX7) (N := 92) hx hb hts hinX7 hown hK hP 0 rfl rfl 15 (by decide) w_2 rfl rfl dX7_worthOf_27 ?_
          refine lv_bipush (v := 10) hx hb dX7_worthOf_30 (by decide +kernel) ?_
          refine lv_aload_n hx hb dX7_worthOf_32 rfl (lv_at hl 0 rfl) ?_
          refine k_get (D := (dC, dI)) (ci := 7) (v := .int (i 13)) (C := RX7) (T := TX7) (N := 92) hx hb hts hinX7 hown hK hP 0 rfl rfl 13 (by decide) w_1 rfl rfl dX7_worthOf_33 ?_
          refine lv_imul hx hb dX7_worthOf_36 ?_
          refine lv_topi (fun y_36 ey_36 => ?_)
          have xy_36 : y_36.toInt = 10 * (i 13).toInt := i_mul ey_36 (iR_c (n := 10) (a := 10) (b := 10) (by decide +kernel) (by decide +kernel)) f_10_1 (by decide +kernel)
          have f_36_6 : iR y_36 0 10 := iR_mul ey_36 (iR_c (n := 10) (a := 10) (b := 10) (by decide +kernel) (by decide +kernel)) f_10_1 (by decide +kernel)
          refine lv_iload_n hx hb dX7_worthOf_37 rfl (lv_at hl 3 rfl) ?_
          refine lv_iadd hx hb dX7_worthOf_38 ?_
          refine lv_topi (fun y_38 ey_38 => ?_)
          have xy_38 : y_38.toInt = y_36.toInt + j4_L3.toInt := i_add ey_38 f_36_6 f_17_3 (by decide +kernel)
          have f_38_7 : iR y_38 0 19 := iR_add ey_38 f_36_6 f_17_3 (by decide +kernel)
          refine va_iald hx hb hK hP 2 0 rfl rfl (iR_vp f_38_7 (by decide +kernel)) dX7_worthOf_39 ?_
          have f_39_8 : iR (f15 y_38.toNatClampNeg) 0 9999 := hf15 _
          refine lv_goto (tgt := 44) hx hb dX7_worthOf_40 (by decide) ?_
          refine lv_iadd hx hb dX7_worthOf_44 ?_
          refine lv_topi (fun y_44p40 ey_44p40 => ?_)
          have xy_44p40 : y_44p40.toInt = j4_L2.toInt + (f15 y_38.toNatClampNeg).toInt := i_add ey_44p40 hj4_L2 f_39_8 (by decide +kernel)
          have f_44p40_9 : iR y_44p40 0 109989 := iR_add ey_44p40 hj4_L2 f_39_8 (by decide +kernel)
          refine lv_istore_n (lv' := [(2, .int y_44p40), (0, .ref h), (1, .int x1), (3, .int j4_L3)]) hx hb dX7_worthOf_45 rfl hl (by decide) rfl (fun ls hl => ?_)
          obtain ⟨y_46p40, ey_46p40⟩ : ∃ y : Int32, y = j4_L3 + 1 := ⟨_, rfl⟩
          refine lv_iinc (v := y_46p40) (lv' := [(3, .int y_46p40), (2, .int y_44p40), (0, .ref h), (1, .int x1)]) hx hb dX7_worthOf_46 hl (k := 3) rfl ey_46p40.symm (by decide) rfl (fun ls hl => ?_)
          have f_46p40_10 : iR y_46p40 1 10 := iR_add ey_46p40 f_17_3 (iR_c (n := 1) (a := 1) (b := 1) (by decide +kernel) (by decide +kernel)) (by decide +kernel)
          have xy_46p40 : y_46p40.toInt = j4_L3.toInt + 1 := i_add ey_46p40 f_17_3 (iR_c (n := 1) (a := 1) (b := 1) (by decide +kernel) (by decide +kernel)) (by decide +kernel)
          refine lv_goto (tgt := 4) hx hb dX7_worthOf_49 (by decide) ?_
          exact ih_4 y_44p40 y_46p40 (by have z := (show 0 ≤ y_44p40.toInt ∧ y_44p40.toInt ≤ 9999 * y_46p40.toInt ∧ y_44p40.toInt ≤ 99990 from by have p0 := p4_1; have z1 := i_add ey_44p40 hj4_L2 f_39_8 (by decide +kernel); have z2 := i_add ey_46p40 f_17_3 (iR_c (n := 1) (a := 1) (b := 1) (by decide +kernel) (by decide +kernel)) (by decide +kernel); have z3 : (1 : Int32).toInt = 1 := (by decide); have z4 : (0 : Int32).toInt = 0 := (by decide); have z5 := f_39_8; have z6 := f_17_3; unfold iR at z5 z6; omega); show (0:Int) ≤ y_44p40.toInt ∧ y_44p40.toInt ≤ 99990; omega) (iR_w f_46p40_10 (by decide +kernel)) (i_incle ey_46p40 c_14) (show y_44p40 = wof f15 (i 13).toNatClampNeg x1 y_46p40.toNatClampNeg from (by have ei : y_38.toNatClampNeg = 10 * (i 13).toNatClampNeg + j4_L3.toNatClampNeg := (by have c0 := iR_cn f_38_7 (by decide +kernel); have c1 := iR_cn f_10_1 (by decide +kernel); have c2 := iR_cn f_17_3 (by decide +kernel); omega); exact wof_step f_17_3 (by decide +kernel) ey_46p40 p4_0 g_20_1 (Or.inr ⟨c_23, by rw [← ei]; exact ey_44p40⟩))) (show 0 ≤ y_44p40.toInt ∧ y_44p40.toInt ≤ 9999 * y_46p40.toInt from (by have z := (show 0 ≤ y_44p40.toInt ∧ y_44p40.toInt ≤ 9999 * y_46p40.toInt ∧ y_44p40.toInt ≤ 99990 from by have p0 := p4_1; have z1 := i_add ey_44p40 hj4_L2 f_39_8 (by decide +kernel); have z2 := i_add ey_46p40 f_17_3 (iR_c (n := 1) (a := 1) (b := 1) (by decide +kernel) (by decide +kernel)) (by decide +kernel); have z3 : (1 : Int32).toInt = 1 := (by decide); have z4 : (0 : Int32).toInt = 0 := (by decide); have z5 := f_39_8; have z6 := f_17_3; unfold iR at z5 z6; omega); omega)) (m_up (B := 10) hm_4 ey_46p40 f_17_3 (by decide +kernel)) H locs ls hP hD hS (lv_sub hl [2, 3, 1, 0] rfl)
  refine lv_istore_n (lv' := [(3, .int 0), (2, .int 0), (0, .ref h), (1, .int x1)]) hx hb dX7_worthOf_3 rfl hl (by decide) rfl (fun ls hl => ?_)
  exact J_4 _ 0 0 (iR_c (n := 0) (a := 0) (b := 99990) (by decide +kernel) (by decide +kernel)) (iR_c (n := 0) (a := 0) (b := 10) (by decide +kernel) (by decide +kernel)) (i_lef (iR_c (n := 0) (a := 0) (b := 0) (by decide +kernel) (by decide +kernel)) (show iR (f14 (i 13).toNatClampNeg) 0 10 from hf14 _) (by decide +kernel)) (show (0 : Int32) = wof f15 (i 13).toNatClampNeg x1 (0 : Int32).toNatClampNeg from (by rw [show (0 : Int32).toNatClampNeg = 0 by decide]; rfl)) (show 0 ≤ (0 : Int32).toInt ∧ (0 : Int32).toInt ≤ 9999 * (0 : Int32).toInt from (by decide)) (Nat.lt_succ_self _) H locs ls hP hD hS (lv_sub hl [2, 3, 1, 0] rfl)
set_option maxHeartbeats 8000000 in
set_option maxRecDepth 100000 in
theorem s_X7_held_v0 (l : Launch) (dC : Nat → ClassId) (dI : Nat → Nat → Nat) (cI cJ cZ cM : ClassId) (x0 : Int64)  : k_Ml l yX7_held wsX7_held ({ frames := 1, cells := 0, slots := 0, locals := 40 }) (dC, dI) vwCl (tyy cI cJ cZ cM) [] [.long x0] 0 0 (fun (u9 : Unit) => []) (fun (r9 : Int64) (u9 : Unit) => (r9 = hld x0)) := by
  refine fun sz => k_enter (cc := cX7_held) (maxL := 2) (ret := some (.long)) (Qc := fun A => va_Ql (fun (r9 : Int64) (u9 : Unit) => (r9 = hld x0)) (fun u => k_B (dC, dI) vwCl (tyy cI cJ cZ cM) A ((fun (u9 : Unit) => []) u)) A) sz (by decide +kernel) rfl (Nat.le_of_ble_eq_true rfl) (fun p e s m args below meth c A ls H locs B hP hD hS hl => ?_)
  obtain ⟨hx, hb, hml, hown, hts, hr, hlk, hnm, hK, hA, hN, hC⟩ := id B
  have hown : s.vm.findClass RX7 = some m.cls := hown
  have hl : lv_has ls 2 [(0, .long x0)] := hl
  have w_0 : (Cond.constantLong RX7 502 (1000000)).before args s = true := hts _ (List.mem_of_getElem? (i := 1) rfl)
  have w_1 : (Cond.constantLong RX7 504 (-1000000)).before args s = true := hts _ (List.mem_of_getElem? (i := 2) rfl)
  refine lv_lload_n hx hb dX7_held_0 rfl (lv_at hl 0 rfl) ?_
  refine lv_ldc2 (v := 1000000) hx hb hown w_0 dX7_held_1 ?_
  refine W.lcmp hx hb dX7_held_4 ?_
  refine lv_topi (fun y_4 ey_4 => ?_)
  refine lv_if_le (tgt := 14) hx hb dX7_held_5 (by decide) (fun c_5 => ?_) (fun c_5 => ?_)
  · have c_5 : y_4 ≤ 0 := c_5
    have f_14_1 : iR y_4 (-2147483648) 0 := iR_leL c_5 (iR_top _) (iR_c (n := 0) (a := 0) (b := 0) (by decide +kernel) (by decide +kernel)) (by decide +kernel)
    have lc_5 : x0 ≤ 1000000 := l_cmple ey_4 c_5
    refine lv_lload_n hx hb dX7_held_14 rfl (lv_at hl 0 rfl) ?_
    refine lv_ldc2 (v := (-1000000)) hx hb hown w_1 dX7_held_15 ?_
    refine W.lcmp hx hb dX7_held_18 ?_
    refine lv_topi (fun y_18 ey_18 => ?_)
    refine lv_if_ge (tgt := 28) hx hb dX7_held_19 (by decide) (fun c_19 => ?_) (fun c_19 => ?_)
    · have c_19 : 0 ≤ y_18 := c_19
      have f_28_2 : iR y_18 0 2147483647 := iR_leR c_19 (iR_c (n := 0) (a := 0) (b := 0) (by decide +kernel) (by decide +kernel)) (iR_top _) (by decide +kernel)
      have lc_19 : (-1000000) ≤ x0 := l_cmpge ey_18 c_19
      refine lv_lload_n hx hb dX7_held_28 rfl (lv_at hl 0 rfl) ?_
      exact k_rl B hP hD hS dX7_held_29 () [] rfl rfl (Nat.le_of_ble_eq_true rfl) (Nat.le_of_ble_eq_true rfl) (show x0 = hld x0 from (hld_md lc_5 lc_19))
    · have c_19 : y_18 < 0 := i_nle c_19
      have f_22_2 : iR y_18 (-2147483648) (-1) := iR_ltL c_19 (iR_top _) (iR_c (n := 0) (a := 0) (b := 0) (by decide +kernel) (by decide +kernel)) (by decide +kernel)
      have lc_19 : x0 < (-1000000) := l_cmplt ey_18 c_19
      refine lv_ldc2 (v := (-1000000)) hx hb hown w_1 dX7_held_22 ?_
      refine lv_goto (tgt := 29) hx hb dX7_held_25 (by decide) ?_
      exact k_rl B hP hD hS dX7_held_29 () [] rfl rfl (Nat.le_of_ble_eq_true rfl) (Nat.le_of_ble_eq_true rfl) (show (-1000000) = hld x0 from (hld_lo lc_5 lc_19))
  · have c_5 : 0 < y_4 := i_nle c_5
    have f_8_1 : iR y_4 1 2147483647 := iR_ltR c_5 (iR_c (n := 0) (a := 0) (b := 0) (by decide +kernel) (by decide +kernel)) (iR_top _) (by decide +kernel)
    have lc_5 : 1000000 < x0 := l_cmpgt ey_4 c_5
    refine lv_ldc2 (v := 1000000) hx hb hown w_0 dX7_held_8 ?_
    refine lv_goto (tgt := 29) hx hb dX7_held_11 (by decide) ?_
    exact k_rl B hP hD hS dX7_held_29 () [] rfl rfl (Nat.le_of_ble_eq_true rfl) (Nat.le_of_ble_eq_true rfl) (show 1000000 = hld x0 from (hld_hi lc_5))
set_option maxHeartbeats 8000000 in
set_option maxRecDepth 100000 in
theorem s_X7_floor_v0 (l : Launch) (dC : Nat → ClassId) (dI : Nat → Nat → Nat) (cI cJ cZ cM : ClassId) (x0 : Int64) (x1 : Int64)  : k_Ml l yX7_floor wsX7_floor ({ frames := 1, cells := 0, slots := 0, locals := 40 }) (dC, dI) vwCl (tyy cI cJ cZ cM) [] [.long x0, .long x1] 0 0 (fun (u9 : Unit) => []) (fun (r9 : Int64) (u9 : Unit) => (r9 = flr x0 x1)) := by
  refine fun sz => k_enter (cc := cX7_floor) (maxL := 6) (ret := some (.long)) (Qc := fun A => va_Ql (fun (r9 : Int64) (u9 : Unit) => (r9 = flr x0 x1)) (fun u => k_B (dC, dI) vwCl (tyy cI cJ cZ cM) A ((fun (u9 : Unit) => []) u)) A) sz (by decide +kernel) rfl (Nat.le_of_ble_eq_true rfl) (fun p e s m args below meth c A ls H locs B hP hD hS hl => ?_)
  obtain ⟨hx, hb, hml, hown, hts, hr, hlk, hnm, hK, hA, hN, hC⟩ := id B
  have hown : s.vm.findClass RX7 = some m.cls := hown
  have hl : lv_has ls 6 [(0, .long x0), (2, .long x1)] := hl
  refine lv_lload_n hx hb dX7_floor_0 rfl (lv_at hl 1 rfl) ?_
  refine lv_lconst (v := 0) hx hb dX7_floor_1 (by decide +kernel) ?_
  refine W.lcmp hx hb dX7_floor_2 ?_
  refine lv_topi (fun y_2 ey_2 => ?_)
  refine lv_if_ne (tgt := 8) hx hb dX7_floor_3 (by decide) (fun c_3 => ?_) (fun c_3 => ?_)
  · have c_3 : ¬ y_2 = 0 := c_3
    have lc_3 : ¬ x1 = 0 := l_cmpne ey_2 c_3
    refine lv_lload_n hx hb dX7_floor_8 rfl (lv_at hl 0 rfl) ?_
    refine lv_lload_n hx hb dX7_floor_9 rfl (lv_at hl 1 rfl) ?_
    refine lv_ldiv hx hb dX7_floor_10 lc_3 ?_
    refine lv_topl (fun y_10 ey_10 => ?_)
    refine lv_lstore (lv' := [(4, .long y_10), (0, .long x0), (2, .long x1)]) hx hb dX7_floor_11 hl (by decide) rfl (fun ls hl => ?_)
    refine lv_lload_n hx hb dX7_floor_13 rfl (lv_at hl 1 rfl) ?_
    refine lv_lload_n hx hb dX7_floor_14 rfl (lv_at hl 2 rfl) ?_
    refine lv_lrem hx hb dX7_floor_15 lc_3 ?_
    refine lv_topl (fun y_15 ey_15 => ?_)
    refine lv_lconst (v := 0) hx hb dX7_floor_16 (by decide +kernel) ?_
    refine W.lcmp hx hb dX7_floor_17 ?_
    refine lv_topi (fun y_17 ey_17 => ?_)
    refine lv_if_eq (tgt := 53) hx hb dX7_floor_18 (by decide) (fun c_18 => ?_) (fun c_18 => ?_)
    · have c_18 : y_17 = 0 := c_18
      have f_53_1 : iR y_17 0 0 := iR_eqL c_18 (iR_top _) (iR_c (n := 0) (a := 0) (b := 0) (by decide +kernel) (by decide +kernel)) (by decide +kernel)
      have lc_18 : y_15 = 0 := l_cmpe ey_17 c_18
      refine lv_lload hx hb dX7_floor_53 (lv_at hl 0 rfl) ?_
      exact k_rl B hP hD hS dX7_floor_55 () [] rfl rfl (Nat.le_of_ble_eq_true rfl) (Nat.le_of_ble_eq_true rfl) (show y_10 = flr x0 x1 from (flr_q lc_3 ey_10 ey_15 (Or.inl lc_18)))
    · have c_18 : ¬ y_17 = 0 := c_18
      have lc_18 : ¬ y_15 = 0 := l_cmpne ey_17 c_18
      refine lv_lload_n hx hb dX7_floor_21 rfl (lv_at hl 1 rfl) ?_
      refine lv_lconst (v := 0) hx hb dX7_floor_22 (by decide +kernel) ?_
      refine W.lcmp hx hb dX7_floor_23 ?_
      refine lv_topi (fun y_23 ey_23 => ?_)
      refine lv_if_ge (tgt := 31) hx hb dX7_floor_24 (by decide) (fun c_24 => ?_) (fun c_24 => ?_)
      · have c_24 : 0 ≤ y_23 := c_24
        have f_31_1 : iR y_23 0 2147483647 := iR_leR c_24 (iR_c (n := 0) (a := 0) (b := 0) (by decide +kernel) (by decide +kernel)) (iR_top _) (by decide +kernel)
        have lc_24 : 0 ≤ x0 := l_cmpge ey_23 c_24
        refine lv_iconst (v := 0) hx hb dX7_floor_31 (by decide +kernel) ?_
        refine lv_lload_n hx hb dX7_floor_32 rfl (lv_at hl 2 rfl) ?_
        refine lv_lconst (v := 0) hx hb dX7_floor_33 (by decide +kernel) ?_
        refine W.lcmp hx hb dX7_floor_34 ?_
        refine lv_topi (fun y_34p31 ey_34p31 => ?_)
        refine lv_if_ge (tgt := 42) hx hb dX7_floor_35 (by decide) (fun c_35p31 => ?_) (fun c_35p31 => ?_)
        · have c_35p31 : 0 ≤ y_34p31 := c_35p31
          have f_42p31_2 : iR y_34p31 0 2147483647 := iR_leR c_35p31 (iR_c (n := 0) (a := 0) (b := 0) (by decide +kernel) (by decide +kernel)) (iR_top _) (by decide +kernel)
          have lc_35p31 : 0 ≤ x1 := l_cmpge ey_34p31 c_35p31
          refine lv_iconst (v := 0) hx hb dX7_floor_42 (by decide +kernel) ?_
          refine lv_icmp_eq (tgt := 53) hx hb dX7_floor_43 (by decide) (fun _ => ?_) (fun q9 => absurd q9 (by decide +kernel))
          refine lv_lload hx hb dX7_floor_53 (lv_at hl 0 rfl) ?_
          exact k_rl B hP hD hS dX7_floor_55 () [] rfl rfl (Nat.le_of_ble_eq_true rfl) (Nat.le_of_ble_eq_true rfl) (show y_10 = flr x0 x1 from (flr_q lc_3 ey_10 ey_15 (Or.inr (Or.inr ⟨lc_24, lc_35p31⟩))))
        · have c_35p31 : y_34p31 < 0 := i_nle c_35p31
          have f_38p31_2 : iR y_34p31 (-2147483648) (-1) := iR_ltL c_35p31 (iR_top _) (iR_c (n := 0) (a := 0) (b := 0) (by decide +kernel) (by decide +kernel)) (by decide +kernel)
          have lc_35p31 : x1 < 0 := l_cmplt ey_34p31 c_35p31
          refine lv_iconst (v := 1) hx hb dX7_floor_38 (by decide +kernel) ?_
          refine lv_goto (tgt := 43) hx hb dX7_floor_39 (by decide) ?_
          refine lv_icmp_eq (tgt := 53) hx hb dX7_floor_43 (by decide) (fun q9 => absurd q9 (by decide +kernel)) (fun _ => ?_)
          refine lv_lload hx hb dX7_floor_46 (lv_at hl 0 rfl) ?_
          refine lv_lconst (v := 1) hx hb dX7_floor_48 (by decide +kernel) ?_
          refine lv_lsub hx hb dX7_floor_49 ?_
          refine lv_topl (fun y_49p31p39 ey_49p31p39 => ?_)
          refine lv_goto (tgt := 55) hx hb dX7_floor_50 (by decide) ?_
          exact k_rl B hP hD hS dX7_floor_55 () [] rfl rfl (Nat.le_of_ble_eq_true rfl) (Nat.le_of_ble_eq_true rfl) (show y_49p31p39 = flr x0 x1 from (flr_1 lc_3 ey_10 ey_15 ey_49p31p39 lc_18 (Or.inr ⟨lc_24, lc_35p31⟩)))
      · have c_24 : y_23 < 0 := i_nle c_24
        have f_27_1 : iR y_23 (-2147483648) (-1) := iR_ltL c_24 (iR_top _) (iR_c (n := 0) (a := 0) (b := 0) (by decide +kernel) (by decide +kernel)) (by decide +kernel)
        have lc_24 : x0 < 0 := l_cmplt ey_23 c_24
        refine lv_iconst (v := 1) hx hb dX7_floor_27 (by decide +kernel) ?_
        refine lv_goto (tgt := 32) hx hb dX7_floor_28 (by decide) ?_
        refine lv_lload_n hx hb dX7_floor_32 rfl (lv_at hl 2 rfl) ?_
        refine lv_lconst (v := 0) hx hb dX7_floor_33 (by decide +kernel) ?_
        refine W.lcmp hx hb dX7_floor_34 ?_
        refine lv_topi (fun y_34p28 ey_34p28 => ?_)
        refine lv_if_ge (tgt := 42) hx hb dX7_floor_35 (by decide) (fun c_35p28 => ?_) (fun c_35p28 => ?_)
        · have c_35p28 : 0 ≤ y_34p28 := c_35p28
          have f_42p28_2 : iR y_34p28 0 2147483647 := iR_leR c_35p28 (iR_c (n := 0) (a := 0) (b := 0) (by decide +kernel) (by decide +kernel)) (iR_top _) (by decide +kernel)
          have lc_35p28 : 0 ≤ x1 := l_cmpge ey_34p28 c_35p28
          refine lv_iconst (v := 0) hx hb dX7_floor_42 (by decide +kernel) ?_
          refine lv_icmp_eq (tgt := 53) hx hb dX7_floor_43 (by decide) (fun q9 => absurd q9 (by decide +kernel)) (fun _ => ?_)
          refine lv_lload hx hb dX7_floor_46 (lv_at hl 0 rfl) ?_
          refine lv_lconst (v := 1) hx hb dX7_floor_48 (by decide +kernel) ?_
          refine lv_lsub hx hb dX7_floor_49 ?_
          refine lv_topl (fun y_49p28p42 ey_49p28p42 => ?_)
          refine lv_goto (tgt := 55) hx hb dX7_floor_50 (by decide) ?_
          exact k_rl B hP hD hS dX7_floor_55 () [] rfl rfl (Nat.le_of_ble_eq_true rfl) (Nat.le_of_ble_eq_true rfl) (show y_49p28p42 = flr x0 x1 from (flr_1 lc_3 ey_10 ey_15 ey_49p28p42 lc_18 (Or.inl ⟨lc_24, lc_35p28⟩)))
        · have c_35p28 : y_34p28 < 0 := i_nle c_35p28
          have f_38p28_2 : iR y_34p28 (-2147483648) (-1) := iR_ltL c_35p28 (iR_top _) (iR_c (n := 0) (a := 0) (b := 0) (by decide +kernel) (by decide +kernel)) (by decide +kernel)
          have lc_35p28 : x1 < 0 := l_cmplt ey_34p28 c_35p28
          refine lv_iconst (v := 1) hx hb dX7_floor_38 (by decide +kernel) ?_
          refine lv_goto (tgt := 43) hx hb dX7_floor_39 (by decide) ?_
          refine lv_icmp_eq (tgt := 53) hx hb dX7_floor_43 (by decide) (fun _ => ?_) (fun q9 => absurd q9 (by decide +kernel))
          refine lv_lload hx hb dX7_floor_53 (lv_at hl 0 rfl) ?_
          exact k_rl B hP hD hS dX7_floor_55 () [] rfl rfl (Nat.le_of_ble_eq_true rfl) (Nat.le_of_ble_eq_true rfl) (show y_10 = flr x0 x1 from (flr_q lc_3 ey_10 ey_15 (Or.inr (Or.inl ⟨lc_24, lc_35p28⟩))))
  · have c_3 : y_2 = 0 := c_3
    have f_6_1 : iR y_2 0 0 := iR_eqL c_3 (iR_top _) (iR_c (n := 0) (a := 0) (b := 0) (by decide +kernel) (by decide +kernel)) (by decide +kernel)
    have lc_3 : x1 = 0 := l_cmpe ey_2 c_3
    refine lv_lconst (v := 0) hx hb dX7_floor_6 (by decide +kernel) ?_
    exact k_rl B hP hD hS dX7_floor_7 () [] rfl rfl (Nat.le_of_ble_eq_true rfl) (Nat.le_of_ble_eq_true rfl) (show 0 = flr x0 x1 from (flr_0 lc_3))
set_option maxHeartbeats 8000000 in
set_option maxRecDepth 100000 in
theorem s_X7_two_v0 (l : Launch) (dC : Nat → ClassId) (dI : Nat → Nat → Nat) (cI cJ cZ cM : ClassId) (x0 : Int32) (x1 : Int64) (x2 : Int64)  : k_Ml l yX7_two wsX7_two ({ frames := 2, cells := 0, slots := 0, locals := 65 }) (dC, dI) vwCl (tyy cI cJ cZ cM) [] [.int x0, .long x1, .long x2] 0 0 (fun (u9 : Unit) => []) (fun (r9 : Int64) (u9 : Unit) => (r9 = twf x0 x1 x2)) := by
  refine fun sz => k_enter (cc := cX7_two) (maxL := 5) (ret := some (.long)) (Qc := fun A => va_Ql (fun (r9 : Int64) (u9 : Unit) => (r9 = twf x0 x1 x2)) (fun u => k_B (dC, dI) vwCl (tyy cI cJ cZ cM) A ((fun (u9 : Unit) => []) u)) A) sz (by decide +kernel) rfl (Nat.le_of_ble_eq_true rfl) (fun p e s m args below meth c A ls H locs B hP hD hS hl => ?_)
  obtain ⟨hx, hb, hml, hown, hts, hr, hlk, hnm, hK, hA, hN, hC⟩ := id B
  have hown : s.vm.findClass RX7 = some m.cls := hown
  have hl : lv_has ls 5 [(0, .int x0), (1, .long x1), (3, .long x2)] := hl
  refine lv_iload_n hx hb dX7_two_0 rfl (lv_at hl 0 rfl) ?_
  rcases (show x0.toInt = 10 ∨ x0.toInt = 11 ∨ x0.toInt = 12 ∨ x0.toInt = 13 ∨ x0.toInt = 14 ∨ x0.toInt = 15 ∨ x0.toInt = 16 ∨ x0.toInt = 17 ∨ x0.toInt = 18 ∨ x0.toInt = 19 ∨ x0.toInt = 20 ∨ (¬ x0.toInt = 10 ∧ ¬ x0.toInt = 11 ∧ ¬ x0.toInt = 12 ∧ ¬ x0.toInt = 13 ∧ ¬ x0.toInt = 14 ∧ ¬ x0.toInt = 15 ∧ ¬ x0.toInt = 16 ∧ ¬ x0.toInt = 17 ∧ ¬ x0.toInt = 18 ∧ ¬ x0.toInt = 19 ∧ ¬ x0.toInt = 20) by omega) with c_1 | c_1 | c_1 | c_1 | c_1 | c_1 | c_1 | c_1 | c_1 | c_1 | c_1 | c_1
  · have f_60_1 : iR x0 10 10 := iR_c c_1 (by decide +kernel)
    refine lv_tableIn (off := 59) (tgt := 60) hx hb dX7_two_1 (by rw [c_1]; decide) (by rw [c_1]; decide) (by rw [c_1]; decide +kernel) (by decide +kernel) ?_
    refine lv_lload_n hx hb dX7_two_60 rfl (lv_at hl 1 rfl) ?_
    refine lv_lload_n hx hb dX7_two_61 rfl (lv_at hl 2 rfl) ?_
    refine lv_ladd hx hb dX7_two_62 ?_
    refine lv_topl (fun y_62 ey_62 => ?_)
    refine k_cl (wc := []) (wr := []) (fun hPc hDc hFc => va_runS (As := [.long y_62]) (rest := []) ⟨hx, hb, hml, hown, hts⟩ (s_X7_held_v0 l dC dI cI cJ cZ cM y_62 H.size) (va_cwS 1 hts gX7_two_X7_held rfl rfl rfl (by decide +kernel) ⟨(Nat.le_of_ble_eq_true rfl), (Nat.le_of_ble_eq_true rfl)⟩) (k_pS hPc hDc hK hN hC hS hFc) rfl rfl hl.1 rfl (lv_room (Nat.le_of_ble_eq_true rfl)) dX7_two_63 ⟨(Nat.le_of_ble_eq_true rfl), (Nat.le_of_ble_eq_true rfl)⟩) hP hD hS hA [] [] rfl rfl rfl rfl (by decide) (fun _ => rfl) 0 0 rfl rfl (fun r_63 u_63 H locs hw hP hD hS => ?_)
    have g_63_0 := hw
    have hP : va_P (dC, dI) vwCl [] H := hP
    have hD : va_D A [] := hD
    have g_63_0 : r_63 = hld y_62 := g_63_0
    exact k_rl B hP hD hS dX7_two_66 () [] rfl rfl (Nat.le_of_ble_eq_true rfl) (Nat.le_of_ble_eq_true rfl) (show r_63 = twf x0 x1 x2 from (twf_10 (k_eqL (by decide +kernel) c_1) ey_62 g_63_0))
  · have f_67_1 : iR x0 11 11 := iR_c c_1 (by decide +kernel)
    refine lv_tableIn (off := 66) (tgt := 67) hx hb dX7_two_1 (by rw [c_1]; decide) (by rw [c_1]; decide) (by rw [c_1]; decide +kernel) (by decide +kernel) ?_
    refine lv_lload_n hx hb dX7_two_67 rfl (lv_at hl 1 rfl) ?_
    refine lv_lload_n hx hb dX7_two_68 rfl (lv_at hl 2 rfl) ?_
    refine lv_lsub hx hb dX7_two_69 ?_
    refine lv_topl (fun y_69 ey_69 => ?_)
    refine k_cl (wc := []) (wr := []) (fun hPc hDc hFc => va_runS (As := [.long y_69]) (rest := []) ⟨hx, hb, hml, hown, hts⟩ (s_X7_held_v0 l dC dI cI cJ cZ cM y_69 H.size) (va_cwS 1 hts gX7_two_X7_held rfl rfl rfl (by decide +kernel) ⟨(Nat.le_of_ble_eq_true rfl), (Nat.le_of_ble_eq_true rfl)⟩) (k_pS hPc hDc hK hN hC hS hFc) rfl rfl hl.1 rfl (lv_room (Nat.le_of_ble_eq_true rfl)) dX7_two_70 ⟨(Nat.le_of_ble_eq_true rfl), (Nat.le_of_ble_eq_true rfl)⟩) hP hD hS hA [] [] rfl rfl rfl rfl (by decide) (fun _ => rfl) 0 0 rfl rfl (fun r_70 u_70 H locs hw hP hD hS => ?_)
    have g_70_0 := hw
    have hP : va_P (dC, dI) vwCl [] H := hP
    have hD : va_D A [] := hD
    have g_70_0 : r_70 = hld y_69 := g_70_0
    exact k_rl B hP hD hS dX7_two_73 () [] rfl rfl (Nat.le_of_ble_eq_true rfl) (Nat.le_of_ble_eq_true rfl) (show r_70 = twf x0 x1 x2 from (twf_11 (k_eqL (by decide +kernel) c_1) ey_69 g_70_0))
  · have f_74_1 : iR x0 12 12 := iR_c c_1 (by decide +kernel)
    refine lv_tableIn (off := 73) (tgt := 74) hx hb dX7_two_1 (by rw [c_1]; decide) (by rw [c_1]; decide) (by rw [c_1]; decide +kernel) (by decide +kernel) ?_
    refine lv_lload_n hx hb dX7_two_74 rfl (lv_at hl 1 rfl) ?_
    refine lv_lload_n hx hb dX7_two_75 rfl (lv_at hl 2 rfl) ?_
    refine lv_lmul hx hb dX7_two_76 ?_
    refine lv_topl (fun y_76 ey_76 => ?_)
    refine k_cl (wc := []) (wr := []) (fun hPc hDc hFc => va_runS (As := [.long y_76]) (rest := []) ⟨hx, hb, hml, hown, hts⟩ (s_X7_held_v0 l dC dI cI cJ cZ cM y_76 H.size) (va_cwS 1 hts gX7_two_X7_held rfl rfl rfl (by decide +kernel) ⟨(Nat.le_of_ble_eq_true rfl), (Nat.le_of_ble_eq_true rfl)⟩) (k_pS hPc hDc hK hN hC hS hFc) rfl rfl hl.1 rfl (lv_room (Nat.le_of_ble_eq_true rfl)) dX7_two_77 ⟨(Nat.le_of_ble_eq_true rfl), (Nat.le_of_ble_eq_true rfl)⟩) hP hD hS hA [] [] rfl rfl rfl rfl (by decide) (fun _ => rfl) 0 0 rfl rfl (fun r_77 u_77 H locs hw hP hD hS => ?_)
    have g_77_0 := hw
    have hP : va_P (dC, dI) vwCl [] H := hP
    have hD : va_D A [] := hD
    have g_77_0 : r_77 = hld y_76 := g_77_0
    exact k_rl B hP hD hS dX7_two_80 () [] rfl rfl (Nat.le_of_ble_eq_true rfl) (Nat.le_of_ble_eq_true rfl) (show r_77 = twf x0 x1 x2 from (twf_12 (k_eqL (by decide +kernel) c_1) ey_76 g_77_0))
  · have f_81_1 : iR x0 13 13 := iR_c c_1 (by decide +kernel)
    refine lv_tableIn (off := 80) (tgt := 81) hx hb dX7_two_1 (by rw [c_1]; decide) (by rw [c_1]; decide) (by rw [c_1]; decide +kernel) (by decide +kernel) ?_
    refine lv_lload_n hx hb dX7_two_81 rfl (lv_at hl 1 rfl) ?_
    refine lv_lload_n hx hb dX7_two_82 rfl (lv_at hl 2 rfl) ?_
    refine k_cl (wc := []) (wr := []) (fun hPc hDc hFc => va_runS (As := [.long x1, .long x2]) (rest := []) ⟨hx, hb, hml, hown, hts⟩ (s_X7_floor_v0 l dC dI cI cJ cZ cM x1 x2 H.size) (va_cwS 2 hts gX7_two_X7_floor rfl rfl rfl (by decide +kernel) ⟨(Nat.le_of_ble_eq_true rfl), (Nat.le_of_ble_eq_true rfl)⟩) (k_pS hPc hDc hK hN hC hS hFc) rfl rfl hl.1 rfl (lv_room (Nat.le_of_ble_eq_true rfl)) dX7_two_83 ⟨(Nat.le_of_ble_eq_true rfl), (Nat.le_of_ble_eq_true rfl)⟩) hP hD hS hA [] [] rfl rfl rfl rfl (by decide) (fun _ => rfl) 0 0 rfl rfl (fun r_83 u_83 H locs hw hP hD hS => ?_)
    have g_83_0 := hw
    have hP : va_P (dC, dI) vwCl [] H := hP
    have hD : va_D A [] := hD
    have g_83_0 : r_83 = flr x1 x2 := g_83_0
    refine k_cl (wc := []) (wr := []) (fun hPc hDc hFc => va_runS (As := [.long r_83]) (rest := []) ⟨hx, hb, hml, hown, hts⟩ (s_X7_held_v0 l dC dI cI cJ cZ cM r_83 H.size) (va_cwS 1 hts gX7_two_X7_held rfl rfl rfl (by decide +kernel) ⟨(Nat.le_of_ble_eq_true rfl), (Nat.le_of_ble_eq_true rfl)⟩) (k_pS hPc hDc hK hN hC hS hFc) rfl rfl hl.1 rfl (lv_room (Nat.le_of_ble_eq_true rfl)) dX7_two_86 ⟨(Nat.le_of_ble_eq_true rfl), (Nat.le_of_ble_eq_true rfl)⟩) hP hD hS hA [] [] rfl rfl rfl rfl (by decide) (fun _ => rfl) 0 0 rfl rfl (fun r_86 u_86 H locs hw hP hD hS => ?_)
    have g_86_0 := hw
    have hP : va_P (dC, dI) vwCl [] H := hP
    have hD : va_D A [] := hD
    have g_86_0 : r_86 = hld r_83 := g_86_0
    exact k_rl B hP hD hS dX7_two_89 () [] rfl rfl (Nat.le_of_ble_eq_true rfl) (Nat.le_of_ble_eq_true rfl) (show r_86 = twf x0 x1 x2 from (twf_13 (k_eqL (by decide +kernel) c_1) g_83_0 g_86_0))
  · have f_90_1 : iR x0 14 14 := iR_c c_1 (by decide +kernel)
    refine lv_tableIn (off := 89) (tgt := 90) hx hb dX7_two_1 (by rw [c_1]; decide) (by rw [c_1]; decide) (by rw [c_1]; decide +kernel) (by decide +kernel) ?_
    refine lv_lload_n hx hb dX7_two_90 rfl (lv_at hl 2 rfl) ?_
    refine lv_lconst (v := 0) hx hb dX7_two_91 (by decide +kernel) ?_
    refine W.lcmp hx hb dX7_two_92 ?_
    refine lv_topi (fun y_92 ey_92 => ?_)
    refine lv_if_ne (tgt := 100) hx hb dX7_two_93 (by decide) (fun c_93 => ?_) (fun c_93 => ?_)
    · have c_93 : ¬ y_92 = 0 := c_93
      have lc_93 : ¬ x2 = 0 := l_cmpne ey_92 c_93
      refine lv_lload_n hx hb dX7_two_100 rfl (lv_at hl 1 rfl) ?_
      refine lv_lload_n hx hb dX7_two_101 rfl (lv_at hl 2 rfl) ?_
      refine lv_lload_n hx hb dX7_two_102 rfl (lv_at hl 1 rfl) ?_
      refine lv_lload_n hx hb dX7_two_103 rfl (lv_at hl 2 rfl) ?_
      refine k_cl (wc := []) (wr := []) (fun hPc hDc hFc => va_runS (As := [.long x1, .long x2]) (rest := [.long x2, .long x1]) ⟨hx, hb, hml, hown, hts⟩ (s_X7_floor_v0 l dC dI cI cJ cZ cM x1 x2 H.size) (va_cwS 2 hts gX7_two_X7_floor rfl rfl rfl (by decide +kernel) ⟨(Nat.le_of_ble_eq_true rfl), (Nat.le_of_ble_eq_true rfl)⟩) (k_pS hPc hDc hK hN hC hS hFc) rfl rfl hl.1 rfl (lv_room (Nat.le_of_ble_eq_true rfl)) dX7_two_104 ⟨(Nat.le_of_ble_eq_true rfl), (Nat.le_of_ble_eq_true rfl)⟩) hP hD hS hA [] [] rfl rfl rfl rfl (by decide) (fun _ => rfl) 0 0 rfl rfl (fun r_104 u_104 H locs hw hP hD hS => ?_)
      have g_104_0 := hw
      have hP : va_P (dC, dI) vwCl [] H := hP
      have hD : va_D A [] := hD
      have g_104_0 : r_104 = flr x1 x2 := g_104_0
      refine lv_lmul hx hb dX7_two_107 ?_
      refine lv_topl (fun y_107 ey_107 => ?_)
      refine lv_lsub hx hb dX7_two_108 ?_
      refine lv_topl (fun y_108 ey_108 => ?_)
      refine k_cl (wc := []) (wr := []) (fun hPc hDc hFc => va_runS (As := [.long y_108]) (rest := []) ⟨hx, hb, hml, hown, hts⟩ (s_X7_held_v0 l dC dI cI cJ cZ cM y_108 H.size) (va_cwS 1 hts gX7_two_X7_held rfl rfl rfl (by decide +kernel) ⟨(Nat.le_of_ble_eq_true rfl), (Nat.le_of_ble_eq_true rfl)⟩) (k_pS hPc hDc hK hN hC hS hFc) rfl rfl hl.1 rfl (lv_room (Nat.le_of_ble_eq_true rfl)) dX7_two_109 ⟨(Nat.le_of_ble_eq_true rfl), (Nat.le_of_ble_eq_true rfl)⟩) hP hD hS hA [] [] rfl rfl rfl rfl (by decide) (fun _ => rfl) 0 0 rfl rfl (fun r_109 u_109 H locs hw hP hD hS => ?_)
      have g_109_0 := hw
      have hP : va_P (dC, dI) vwCl [] H := hP
      have hD : va_D A [] := hD
      have g_109_0 : r_109 = hld y_108 := g_109_0
      exact k_rl B hP hD hS dX7_two_112 () [] rfl rfl (Nat.le_of_ble_eq_true rfl) (Nat.le_of_ble_eq_true rfl) (show r_109 = twf x0 x1 x2 from (twf_14 (k_eqL (by decide +kernel) c_1) lc_93 g_104_0 ey_107 ey_108 g_109_0))
    · have c_93 : y_92 = 0 := c_93
      have f_96_2 : iR y_92 0 0 := iR_eqL c_93 (iR_top _) (iR_c (n := 0) (a := 0) (b := 0) (by decide +kernel) (by decide +kernel)) (by decide +kernel)
      have lc_93 : x2 = 0 := l_cmpe ey_92 c_93
      refine lv_lconst (v := 0) hx hb dX7_two_96 (by decide +kernel) ?_
      refine lv_goto (tgt := 112) hx hb dX7_two_97 (by decide) ?_
      exact k_rl B hP hD hS dX7_two_112 () [] rfl rfl (Nat.le_of_ble_eq_true rfl) (Nat.le_of_ble_eq_true rfl) (show 0 = twf x0 x1 x2 from (twf_14z (k_eqL (by decide +kernel) c_1) lc_93))
  · have f_113_1 : iR x0 15 15 := iR_c c_1 (by decide +kernel)
    refine lv_tableIn (off := 112) (tgt := 113) hx hb dX7_two_1 (by rw [c_1]; decide) (by rw [c_1]; decide) (by rw [c_1]; decide +kernel) (by decide +kernel) ?_
    refine lv_lload_n hx hb dX7_two_113 rfl (lv_at hl 1 rfl) ?_
    refine lv_lload_n hx hb dX7_two_114 rfl (lv_at hl 2 rfl) ?_
    refine W.lcmp hx hb dX7_two_115 ?_
    refine lv_topi (fun y_115 ey_115 => ?_)
    refine lv_if_ge (tgt := 123) hx hb dX7_two_116 (by decide) (fun c_116 => ?_) (fun c_116 => ?_)
    · have c_116 : 0 ≤ y_115 := c_116
      have f_123_2 : iR y_115 0 2147483647 := iR_leR c_116 (iR_c (n := 0) (a := 0) (b := 0) (by decide +kernel) (by decide +kernel)) (iR_top _) (by decide +kernel)
      have lc_116 : x2 ≤ x1 := l_cmpge ey_115 c_116
      refine lv_lload_n hx hb dX7_two_123 rfl (lv_at hl 2 rfl) ?_
      exact k_rl B hP hD hS dX7_two_124 () [] rfl rfl (Nat.le_of_ble_eq_true rfl) (Nat.le_of_ble_eq_true rfl) (show x2 = twf x0 x1 x2 from (twf_15b (k_eqL (by decide +kernel) c_1) lc_116))
    · have c_116 : y_115 < 0 := i_nle c_116
      have f_119_2 : iR y_115 (-2147483648) (-1) := iR_ltL c_116 (iR_top _) (iR_c (n := 0) (a := 0) (b := 0) (by decide +kernel) (by decide +kernel)) (by decide +kernel)
      have lc_116 : x1 < x2 := l_cmplt ey_115 c_116
      refine lv_lload_n hx hb dX7_two_119 rfl (lv_at hl 1 rfl) ?_
      refine lv_goto (tgt := 124) hx hb dX7_two_120 (by decide) ?_
      exact k_rl B hP hD hS dX7_two_124 () [] rfl rfl (Nat.le_of_ble_eq_true rfl) (Nat.le_of_ble_eq_true rfl) (show x1 = twf x0 x1 x2 from (twf_15a (k_eqL (by decide +kernel) c_1) lc_116))
  · have f_125_1 : iR x0 16 16 := iR_c c_1 (by decide +kernel)
    refine lv_tableIn (off := 124) (tgt := 125) hx hb dX7_two_1 (by rw [c_1]; decide) (by rw [c_1]; decide) (by rw [c_1]; decide +kernel) (by decide +kernel) ?_
    refine lv_lload_n hx hb dX7_two_125 rfl (lv_at hl 1 rfl) ?_
    refine lv_lload_n hx hb dX7_two_126 rfl (lv_at hl 2 rfl) ?_
    refine W.lcmp hx hb dX7_two_127 ?_
    refine lv_topi (fun y_127 ey_127 => ?_)
    refine lv_if_le (tgt := 135) hx hb dX7_two_128 (by decide) (fun c_128 => ?_) (fun c_128 => ?_)
    · have c_128 : y_127 ≤ 0 := c_128
      have f_135_2 : iR y_127 (-2147483648) 0 := iR_leL c_128 (iR_top _) (iR_c (n := 0) (a := 0) (b := 0) (by decide +kernel) (by decide +kernel)) (by decide +kernel)
      have lc_128 : x1 ≤ x2 := l_cmple ey_127 c_128
      refine lv_lload_n hx hb dX7_two_135 rfl (lv_at hl 2 rfl) ?_
      exact k_rl B hP hD hS dX7_two_136 () [] rfl rfl (Nat.le_of_ble_eq_true rfl) (Nat.le_of_ble_eq_true rfl) (show x2 = twf x0 x1 x2 from (twf_16b (k_eqL (by decide +kernel) c_1) lc_128))
    · have c_128 : 0 < y_127 := i_nle c_128
      have f_131_2 : iR y_127 1 2147483647 := iR_ltR c_128 (iR_c (n := 0) (a := 0) (b := 0) (by decide +kernel) (by decide +kernel)) (iR_top _) (by decide +kernel)
      have lc_128 : x2 < x1 := l_cmpgt ey_127 c_128
      refine lv_lload_n hx hb dX7_two_131 rfl (lv_at hl 1 rfl) ?_
      refine lv_goto (tgt := 136) hx hb dX7_two_132 (by decide) ?_
      exact k_rl B hP hD hS dX7_two_136 () [] rfl rfl (Nat.le_of_ble_eq_true rfl) (Nat.le_of_ble_eq_true rfl) (show x1 = twf x0 x1 x2 from (twf_16a (k_eqL (by decide +kernel) c_1) lc_128))
  · have f_137_1 : iR x0 17 17 := iR_c c_1 (by decide +kernel)
    refine lv_tableIn (off := 136) (tgt := 137) hx hb dX7_two_1 (by rw [c_1]; decide) (by rw [c_1]; decide) (by rw [c_1]; decide +kernel) (by decide +kernel) ?_
    refine lv_lload_n hx hb dX7_two_137 rfl (lv_at hl 1 rfl) ?_
    refine lv_lload_n hx hb dX7_two_138 rfl (lv_at hl 2 rfl) ?_
    refine W.lcmp hx hb dX7_two_139 ?_
    refine lv_topi (fun y_139 ey_139 => ?_)
    refine lv_if_ge (tgt := 147) hx hb dX7_two_140 (by decide) (fun c_140 => ?_) (fun c_140 => ?_)
    · have c_140 : 0 ≤ y_139 := c_140
      have f_147_2 : iR y_139 0 2147483647 := iR_leR c_140 (iR_c (n := 0) (a := 0) (b := 0) (by decide +kernel) (by decide +kernel)) (iR_top _) (by decide +kernel)
      have lc_140 : x2 ≤ x1 := l_cmpge ey_139 c_140
      refine lv_lconst (v := 0) hx hb dX7_two_147 (by decide +kernel) ?_
      exact k_rl B hP hD hS dX7_two_148 () [] rfl rfl (Nat.le_of_ble_eq_true rfl) (Nat.le_of_ble_eq_true rfl) (show 0 = twf x0 x1 x2 from (twf_17b (k_eqL (by decide +kernel) c_1) lc_140))
    · have c_140 : y_139 < 0 := i_nle c_140
      have f_143_2 : iR y_139 (-2147483648) (-1) := iR_ltL c_140 (iR_top _) (iR_c (n := 0) (a := 0) (b := 0) (by decide +kernel) (by decide +kernel)) (by decide +kernel)
      have lc_140 : x1 < x2 := l_cmplt ey_139 c_140
      refine lv_lconst (v := 1) hx hb dX7_two_143 (by decide +kernel) ?_
      refine lv_goto (tgt := 148) hx hb dX7_two_144 (by decide) ?_
      exact k_rl B hP hD hS dX7_two_148 () [] rfl rfl (Nat.le_of_ble_eq_true rfl) (Nat.le_of_ble_eq_true rfl) (show 1 = twf x0 x1 x2 from (twf_17a (k_eqL (by decide +kernel) c_1) lc_140))
  · have f_149_1 : iR x0 18 18 := iR_c c_1 (by decide +kernel)
    refine lv_tableIn (off := 148) (tgt := 149) hx hb dX7_two_1 (by rw [c_1]; decide) (by rw [c_1]; decide) (by rw [c_1]; decide +kernel) (by decide +kernel) ?_
    refine lv_lload_n hx hb dX7_two_149 rfl (lv_at hl 1 rfl) ?_
    refine lv_lload_n hx hb dX7_two_150 rfl (lv_at hl 2 rfl) ?_
    refine W.lcmp hx hb dX7_two_151 ?_
    refine lv_topi (fun y_151 ey_151 => ?_)
    refine lv_if_le (tgt := 159) hx hb dX7_two_152 (by decide) (fun c_152 => ?_) (fun c_152 => ?_)
    · have c_152 : y_151 ≤ 0 := c_152
      have f_159_2 : iR y_151 (-2147483648) 0 := iR_leL c_152 (iR_top _) (iR_c (n := 0) (a := 0) (b := 0) (by decide +kernel) (by decide +kernel)) (by decide +kernel)
      have lc_152 : x1 ≤ x2 := l_cmple ey_151 c_152
      refine lv_lconst (v := 0) hx hb dX7_two_159 (by decide +kernel) ?_
      exact k_rl B hP hD hS dX7_two_160 () [] rfl rfl (Nat.le_of_ble_eq_true rfl) (Nat.le_of_ble_eq_true rfl) (show 0 = twf x0 x1 x2 from (twf_18b (k_eqL (by decide +kernel) c_1) lc_152))
    · have c_152 : 0 < y_151 := i_nle c_152
      have f_155_2 : iR y_151 1 2147483647 := iR_ltR c_152 (iR_c (n := 0) (a := 0) (b := 0) (by decide +kernel) (by decide +kernel)) (iR_top _) (by decide +kernel)
      have lc_152 : x2 < x1 := l_cmpgt ey_151 c_152
      refine lv_lconst (v := 1) hx hb dX7_two_155 (by decide +kernel) ?_
      refine lv_goto (tgt := 160) hx hb dX7_two_156 (by decide) ?_
      exact k_rl B hP hD hS dX7_two_160 () [] rfl rfl (Nat.le_of_ble_eq_true rfl) (Nat.le_of_ble_eq_true rfl) (show 1 = twf x0 x1 x2 from (twf_18a (k_eqL (by decide +kernel) c_1) lc_152))
  · have f_161_1 : iR x0 19 19 := iR_c c_1 (by decide +kernel)
    refine lv_tableIn (off := 160) (tgt := 161) hx hb dX7_two_1 (by rw [c_1]; decide) (by rw [c_1]; decide) (by rw [c_1]; decide +kernel) (by decide +kernel) ?_
    refine lv_lload_n hx hb dX7_two_161 rfl (lv_at hl 1 rfl) ?_
    refine lv_lload_n hx hb dX7_two_162 rfl (lv_at hl 2 rfl) ?_
    refine W.lcmp hx hb dX7_two_163 ?_
    refine lv_topi (fun y_163 ey_163 => ?_)
    refine lv_if_ne (tgt := 171) hx hb dX7_two_164 (by decide) (fun c_164 => ?_) (fun c_164 => ?_)
    · have c_164 : ¬ y_163 = 0 := c_164
      have lc_164 : ¬ x1 = x2 := l_cmpne ey_163 c_164
      refine lv_lconst (v := 0) hx hb dX7_two_171 (by decide +kernel) ?_
      exact k_rl B hP hD hS dX7_two_172 () [] rfl rfl (Nat.le_of_ble_eq_true rfl) (Nat.le_of_ble_eq_true rfl) (show 0 = twf x0 x1 x2 from (twf_19b (k_eqL (by decide +kernel) c_1) lc_164))
    · have c_164 : y_163 = 0 := c_164
      have f_167_2 : iR y_163 0 0 := iR_eqL c_164 (iR_top _) (iR_c (n := 0) (a := 0) (b := 0) (by decide +kernel) (by decide +kernel)) (by decide +kernel)
      have lc_164 : x1 = x2 := l_cmpe ey_163 c_164
      refine lv_lconst (v := 1) hx hb dX7_two_167 (by decide +kernel) ?_
      refine lv_goto (tgt := 172) hx hb dX7_two_168 (by decide) ?_
      exact k_rl B hP hD hS dX7_two_172 () [] rfl rfl (Nat.le_of_ble_eq_true rfl) (Nat.le_of_ble_eq_true rfl) (show 1 = twf x0 x1 x2 from (twf_19a (k_eqL (by decide +kernel) c_1) lc_164))
  · have f_173_1 : iR x0 20 20 := iR_c c_1 (by decide +kernel)
    refine lv_tableIn (off := 172) (tgt := 173) hx hb dX7_two_1 (by rw [c_1]; decide) (by rw [c_1]; decide) (by rw [c_1]; decide +kernel) (by decide +kernel) ?_
    refine lv_lload_n hx hb dX7_two_173 rfl (lv_at hl 1 rfl) ?_
    refine lv_lload_n hx hb dX7_two_174 rfl (lv_at hl 2 rfl) ?_
    refine lv_land hx hb dX7_two_175 ?_
    refine lv_topl (fun y_175 ey_175 => ?_)
    exact k_rl B hP hD hS dX7_two_176 () [] rfl rfl (Nat.le_of_ble_eq_true rfl) (Nat.le_of_ble_eq_true rfl) (show y_175 = twf x0 x1 x2 from (twf_20 (k_eqL (by decide +kernel) c_1) ey_175))
  · refine lv_tableOut (tgt := 177) hx hb dX7_two_1 (by omega) (by decide +kernel) ?_
    refine lv_lload_n hx hb dX7_two_177 rfl (lv_at hl 1 rfl) ?_
    refine lv_lload_n hx hb dX7_two_178 rfl (lv_at hl 2 rfl) ?_
    refine lv_lor hx hb dX7_two_179 ?_
    refine lv_topl (fun y_179 ey_179 => ?_)
    exact k_rl B hP hD hS dX7_two_180 () [] rfl rfl (Nat.le_of_ble_eq_true rfl) (Nat.le_of_ble_eq_true rfl) (show y_179 = twf x0 x1 x2 from (twf_d c_1 ey_179))
set_option maxHeartbeats 8000000 in
set_option maxRecDepth 100000 in
theorem s_X7_bits_v0 (l : Launch) (dC : Nat → ClassId) (dI : Nat → Nat → Nat) (cI cJ cZ cM : ClassId) (x0 : Int32)  : k_Mi l yX7_bits wsX7_bits ({ frames := 1, cells := 0, slots := 0, locals := 40 }) (dC, dI) vwCl (tyy cI cJ cZ cM) [] [.int x0] 0 0 (fun (u9 : Unit) => []) (fun (r9 : Int32) (u9 : Unit) => (r9 = bcf x0)) := by
  refine fun sz => k_enter (cc := cX7_bits) (maxL := 3) (ret := some (.int)) (Qc := fun A => va_Qi (fun (r9 : Int32) (u9 : Unit) => (r9 = bcf x0)) (fun u => k_B (dC, dI) vwCl (tyy cI cJ cZ cM) A ((fun (u9 : Unit) => []) u)) A) sz (by decide +kernel) rfl (Nat.le_of_ble_eq_true rfl) (fun p e s m args below meth c A ls H locs B hP hD hS hl => ?_)
  obtain ⟨hx, hb, hml, hown, hts, hr, hlk, hnm, hK, hA, hN, hC⟩ := id B
  have hown : s.vm.findClass RX7 = some m.cls := hown
  have hl : lv_has ls 3 [(0, .int x0)] := hl
  refine lv_iconst (v := 0) hx hb dX7_bits_0 (by decide +kernel) ?_
  refine lv_istore_n (lv' := [(1, .int 0), (0, .int x0)]) hx hb dX7_bits_1 rfl hl (by decide) rfl (fun ls hl => ?_)
  refine lv_iload_n hx hb dX7_bits_2 rfl (lv_at hl 1 rfl) ?_
  have J_4 : ∀ (n_4 : Nat) (j4_L1 : Int32) (j4_L2 : Int32) (p4_0 : bcf x0 = j4_L1 + bcf j4_L2) (hm_4 : j4_L2.toBitVec.toNat < n_4) (H : Heap) (locs : List Loc) (ls : Array Slot), va_P (dC, dI) vwCl [] H → va_D A [] → va_S A s.heap H locs → lv_has ls 3 [(1, .int j4_L1), (2, .int j4_L2)] → W p l e ({ frames := 1, cells := 0, slots := 0, locals := 40 }) s m args below meth c H locs 0 0 (MQ below (va_Qi (fun (r9 : Int32) (u9 : Unit) => (r9 = bcf x0)) (fun u => k_B (dC, dI) vwCl (tyy cI cJ cZ cM) A ((fun (u9 : Unit) => []) u)) A) args s 0 0 A) (F0 m 4 ls []) := by
    intro n_4
    induction n_4 with
    | zero => intro j4_L1 j4_L2 p4_0 hm_4; exact absurd hm_4 (Nat.not_lt_zero _)
    | succ n_4 ih_4 =>
      intro j4_L1 j4_L2 p4_0 hm_4 H locs ls hP hD hS hl
      refine lv_iload_n hx hb dX7_bits_4 rfl (lv_at hl 1 rfl) ?_
      refine lv_if_eq (tgt := 20) hx hb dX7_bits_5 (by decide) (fun c_5 => ?_) (fun c_5 => ?_)
      · have c_5 : j4_L2 = 0 := c_5
        have f_20_1 : iR j4_L2 0 0 := iR_eqL c_5 (iR_top _) (iR_c (n := 0) (a := 0) (b := 0) (by decide +kernel) (by decide +kernel)) (by decide +kernel)
        refine lv_iload_n hx hb dX7_bits_20 rfl (lv_at hl 0 rfl) ?_
        exact k_ri B hP hD hS dX7_bits_21 () [] rfl rfl rfl (Nat.le_of_ble_eq_true rfl) (Nat.le_of_ble_eq_true rfl) (show j4_L1 = bcf x0 from (bcf_end c_5 p4_0))
      · have c_5 : ¬ j4_L2 = 0 := c_5
        obtain ⟨y_8, ey_8⟩ : ∃ y : Int32, y = j4_L1 + 1 := ⟨_, rfl⟩
        refine lv_iinc (v := y_8) (lv' := [(1, .int y_8), (2, .int j4_L2)]) hx hb dX7_bits_8 hl (k := 0) rfl ey_8.symm (by decide) rfl (fun ls hl => ?_)
        refine lv_iload_n hx hb dX7_bits_11 rfl (lv_at hl 1 rfl) ?_
        refine lv_iload_n hx hb dX7_bits_12 rfl (lv_at hl 1 rfl) ?_
        refine lv_iconst (v := 1) hx hb dX7_bits_13 (by decide +kernel) ?_
        refine lv_isub hx hb dX7_bits_14 ?_
        refine lv_topi (fun y_14 ey_14 => ?_)
        refine lv_iand hx hb dX7_bits_15 ?_
        refine lv_topi (fun y_15 ey_15 => ?_)
        refine lv_istore_n (lv' := [(2, .int y_15), (1, .int y_8)]) hx hb dX7_bits_16 rfl hl (by decide) rfl (fun ls hl => ?_)
        refine lv_goto (tgt := 4) hx hb dX7_bits_17 (by decide) ?_
        exact ih_4 y_8 y_15 (show bcf x0 = y_8 + bcf y_15 from (bcf_step c_5 p4_0 ey_14 ey_15 ey_8)) (m_bits hm_4 ey_14 ey_15 c_5) H locs ls hP hD hS (lv_sub hl [1, 0] rfl)
  refine lv_istore_n (lv' := [(2, .int x0), (1, .int 0), (0, .int x0)]) hx hb dX7_bits_3 rfl hl (by decide) rfl (fun ls hl => ?_)
  exact J_4 _ 0 x0 (show bcf x0 = (0 : Int32) + bcf x0 from (Int32.zero_add _).symm) (Nat.lt_succ_self _) H locs ls hP hD hS (lv_sub hl [1, 0] rfl)
set_option maxHeartbeats 8000000 in
set_option maxRecDepth 100000 in
theorem s_X7_wordsOf_v0 (l : Launch) (dC : Nat → ClassId) (dI : Nat → Nat → Nat) (cI cJ cZ cM : ClassId) (h : Nat) (r : Nat → Nat) (i : Nat → Int32) (j : Nat → Int64) (x1 : Int32) (f19 : Nat → Int32) (hx1 : iR x1 0 11) (hI : mR i) : k_Mi l yX7_wordsOf wsX7_wordsOf ({ frames := 1, cells := 0, slots := 0, locals := 40 }) (dC, dI) vwCl (tyy cI cJ cZ cM) [(h, .inr (7, oM r i j)), ((r 19), .inl (cI, 24, .inl f19))] [.ref h, .int x1] 0 0 (fun (u9 : Unit) => [(h, .inr (7, oM r i j)), ((r 19), .inl (cI, 24, .inl f19))]) (fun (r9 : Int32) (u9 : Unit) => (r9 = f19 (12 * (i 13).toNatClampNeg + x1.toNatClampNeg))) := by
  refine fun sz => k_enter (cc := cX7_wordsOf) (maxL := 2) (ret := some (.int)) (Qc := fun A => va_Qi (fun (r9 : Int32) (u9 : Unit) => (r9 = f19 (12 * (i 13).toNatClampNeg + x1.toNatClampNeg))) (fun u => k_B (dC, dI) vwCl (tyy cI cJ cZ cM) A ((fun (u9 : Unit) => [(h, .inr (7, oM r i j)), ((r 19), .inl (cI, 24, .inl f19))]) u)) A) sz (by decide +kernel) rfl (Nat.le_of_ble_eq_true rfl) (fun p e s m args below meth c A ls H locs B hP hD hS hl => ?_)
  obtain ⟨hx, hb, hml, hown, hts, hr, hlk, hnm, hK, hA, hN, hC⟩ := id B
  have hown : s.vm.findClass RX7 = some m.cls := hown
  have hl : lv_has ls 2 [(0, .ref h), (1, .int x1)] := hl
  have w_0 : (Cond.fieldLink RX7 69 "WishSeaModel" "wishWords" "[I").before args s = true := hts _ (List.mem_of_getElem? (i := 1) rfl)
  have w_1 : (Cond.fieldLink RX7 51 "WishSeaModel" "bank" "I").before args s = true := hts _ (List.mem_of_getElem? (i := 2) rfl)
  have hinX7 : ∀ w ∈ u_ws RX7 TX7 92, w ∈ wsX7_wordsOf := fun _ h => List.mem_cons_of_mem _ (List.mem_append_right _ h)
  refine lv_aload_n hx hb dX7_wordsOf_0 rfl (lv_at hl 0 rfl) ?_
  refine k_get (D := (dC, dI)) (ci := 7) (v := .ref (r 19)) (C := RX7) (T := TX7) (N := 92) hx hb hts hinX7 hown hK hP 0 rfl rfl 19 (by decide) w_0 rfl rfl dX7_wordsOf_1 ?_
  refine lv_bipush (v := 12) hx hb dX7_wordsOf_4 (by decide +kernel) ?_
  refine lv_aload_n hx hb dX7_wordsOf_6 rfl (lv_at hl 0 rfl) ?_
  have f_7_1 : iR (i 13) 0 1 := hI 13
  refine k_get (D := (dC, dI)) (ci := 7) (v := .int (i 13)) (C := RX7) (T := TX7) (N := 92) hx hb hts hinX7 hown hK hP 0 rfl rfl 13 (by decide) w_1 rfl rfl dX7_wordsOf_7 ?_
  refine lv_imul hx hb dX7_wordsOf_10 ?_
  refine lv_topi (fun y_10 ey_10 => ?_)
  have xy_10 : y_10.toInt = 12 * (i 13).toInt := i_mul ey_10 (iR_c (n := 12) (a := 12) (b := 12) (by decide +kernel) (by decide +kernel)) f_7_1 (by decide +kernel)
  have f_10_2 : iR y_10 0 12 := iR_mul ey_10 (iR_c (n := 12) (a := 12) (b := 12) (by decide +kernel) (by decide +kernel)) f_7_1 (by decide +kernel)
  refine lv_iload_n hx hb dX7_wordsOf_11 rfl (lv_at hl 1 rfl) ?_
  refine lv_iadd hx hb dX7_wordsOf_12 ?_
  refine lv_topi (fun y_12 ey_12 => ?_)
  have xy_12 : y_12.toInt = y_10.toInt + x1.toInt := i_add ey_12 f_10_2 hx1 (by decide +kernel)
  have f_12_3 : iR y_12 0 23 := iR_add ey_12 f_10_2 hx1 (by decide +kernel)
  refine va_iald hx hb hK hP 1 0 rfl rfl (iR_vp f_12_3 (by decide +kernel)) dX7_wordsOf_13 ?_
  exact k_ri B hP hD hS dX7_wordsOf_14 () [0, 1] rfl rfl rfl (Nat.le_of_ble_eq_true rfl) (Nat.le_of_ble_eq_true rfl) (show (f19 y_12.toNatClampNeg) = f19 (12 * (i 13).toNatClampNeg + x1.toNatClampNeg) from (congrArg f19 (by have ei : y_12.toNatClampNeg = 12 * (i 13).toNatClampNeg + x1.toNatClampNeg := (by have c0 := iR_cn f_12_3 (by decide +kernel); have c1 := iR_cn f_7_1 (by decide +kernel); have c2 := iR_cn hx1 (by decide +kernel); omega); exact ei)))
set_option maxHeartbeats 8000000 in
set_option maxRecDepth 100000 in
theorem s_X7_givesOf_v0 (l : Launch) (dC : Nat → ClassId) (dI : Nat → Nat → Nat) (cI cJ cZ cM : ClassId) (h : Nat) (r : Nat → Nat) (i : Nat → Int32) (j : Nat → Int64) (x1 : Int32) (f20 : Nat → Int32) (hx1 : iR x1 0 11) (hI : mR i) (hf20 : aR f20 0 9) : k_Mi l yX7_givesOf wsX7_givesOf ({ frames := 1, cells := 0, slots := 0, locals := 40 }) (dC, dI) vwCl (tyy cI cJ cZ cM) [(h, .inr (7, oM r i j)), ((r 20), .inl (cI, 24, .inl f20))] [.ref h, .int x1] 0 0 (fun (u9 : Unit) => [(h, .inr (7, oM r i j)), ((r 20), .inl (cI, 24, .inl f20))]) (fun (r9 : Int32) (u9 : Unit) => (iR r9 0 9) ∧ (r9 = f20 (12 * (i 13).toNatClampNeg + x1.toNatClampNeg))) := by
  refine fun sz => k_enter (cc := cX7_givesOf) (maxL := 2) (ret := some (.int)) (Qc := fun A => va_Qi (fun (r9 : Int32) (u9 : Unit) => (iR r9 0 9) ∧ (r9 = f20 (12 * (i 13).toNatClampNeg + x1.toNatClampNeg))) (fun u => k_B (dC, dI) vwCl (tyy cI cJ cZ cM) A ((fun (u9 : Unit) => [(h, .inr (7, oM r i j)), ((r 20), .inl (cI, 24, .inl f20))]) u)) A) sz (by decide +kernel) rfl (Nat.le_of_ble_eq_true rfl) (fun p e s m args below meth c A ls H locs B hP hD hS hl => ?_)
  obtain ⟨hx, hb, hml, hown, hts, hr, hlk, hnm, hK, hA, hN, hC⟩ := id B
  have hown : s.vm.findClass RX7 = some m.cls := hown
  have hl : lv_has ls 2 [(0, .ref h), (1, .int x1)] := hl
  have w_0 : (Cond.fieldLink RX7 72 "WishSeaModel" "wishGives" "[I").before args s = true := hts _ (List.mem_of_getElem? (i := 1) rfl)
  have w_1 : (Cond.fieldLink RX7 51 "WishSeaModel" "bank" "I").before args s = true := hts _ (List.mem_of_getElem? (i := 2) rfl)
  have hinX7 : ∀ w ∈ u_ws RX7 TX7 92, w ∈ wsX7_givesOf := fun _ h => List.mem_cons_of_mem _ (List.mem_append_right _ h)
  refine lv_aload_n hx hb dX7_givesOf_0 rfl (lv_at hl 0 rfl) ?_
  refine k_get (D := (dC, dI)) (ci := 7) (v := .ref (r 20)) (C := RX7) (T := TX7) (N := 92) hx hb hts hinX7 hown hK hP 0 rfl rfl 20 (by decide) w_0 rfl rfl dX7_givesOf_1 ?_
  refine lv_bipush (v := 12) hx hb dX7_givesOf_4 (by decide +kernel) ?_
  refine lv_aload_n hx hb dX7_givesOf_6 rfl (lv_at hl 0 rfl) ?_
  have f_7_1 : iR (i 13) 0 1 := hI 13
  refine k_get (D := (dC, dI)) (ci := 7) (v := .int (i 13)) (C := RX7) (T := TX7) (N := 92) hx hb hts hinX7 hown hK hP 0 rfl rfl 13 (by decide) w_1 rfl rfl dX7_givesOf_7 ?_
  refine lv_imul hx hb dX7_givesOf_10 ?_
  refine lv_topi (fun y_10 ey_10 => ?_)
  have xy_10 : y_10.toInt = 12 * (i 13).toInt := i_mul ey_10 (iR_c (n := 12) (a := 12) (b := 12) (by decide +kernel) (by decide +kernel)) f_7_1 (by decide +kernel)
  have f_10_2 : iR y_10 0 12 := iR_mul ey_10 (iR_c (n := 12) (a := 12) (b := 12) (by decide +kernel) (by decide +kernel)) f_7_1 (by decide +kernel)
  refine lv_iload_n hx hb dX7_givesOf_11 rfl (lv_at hl 1 rfl) ?_
  refine lv_iadd hx hb dX7_givesOf_12 ?_
  refine lv_topi (fun y_12 ey_12 => ?_)
  have xy_12 : y_12.toInt = y_10.toInt + x1.toInt := i_add ey_12 f_10_2 hx1 (by decide +kernel)
  have f_12_3 : iR y_12 0 23 := iR_add ey_12 f_10_2 hx1 (by decide +kernel)
  refine va_iald hx hb hK hP 1 0 rfl rfl (iR_vp f_12_3 (by decide +kernel)) dX7_givesOf_13 ?_
  have f_13_4 : iR (f20 y_12.toNatClampNeg) 0 9 := hf20 _
  exact k_ri B hP hD hS dX7_givesOf_14 () [0, 1] rfl rfl rfl (Nat.le_of_ble_eq_true rfl) (Nat.le_of_ble_eq_true rfl) ⟨(show iR (f20 y_12.toNatClampNeg) 0 9 from f_13_4), (show (f20 y_12.toNatClampNeg) = f20 (12 * (i 13).toNatClampNeg + x1.toNatClampNeg) from (congrArg f20 (by have ei : y_12.toNatClampNeg = 12 * (i 13).toNatClampNeg + x1.toNatClampNeg := (by have c0 := iR_cn f_12_3 (by decide +kernel); have c1 := iR_cn f_7_1 (by decide +kernel); have c2 := iR_cn hx1 (by decide +kernel); omega); exact ei)))⟩
set_option maxHeartbeats 8000000 in
set_option maxRecDepth 100000 in
theorem s_X7_rhymeOf_v0 (l : Launch) (dC : Nat → ClassId) (dI : Nat → Nat → Nat) (cI cJ cZ cM : ClassId) (h : Nat) (r : Nat → Nat) (i : Nat → Int32) (j : Nat → Int64) (x1 : Int32) (f16 : Nat → Int32) (f20 : Nat → Int32) (hx1 : iR x1 0 11) (hI : mR i) (hf20 : aR f20 0 9) : k_Mi l yX7_rhymeOf wsX7_rhymeOf ({ frames := 2, cells := 0, slots := 0, locals := 61 }) (dC, dI) vwCl (tyy cI cJ cZ cM) [(h, .inr (7, oM r i j)), ((r 16), .inl (cI, 20, .inl f16)), ((r 20), .inl (cI, 24, .inl f20))] [.ref h, .int x1] 0 0 (fun (u9 : Unit) => [(h, .inr (7, oM r i j)), ((r 16), .inl (cI, 20, .inl f16)), ((r 20), .inl (cI, 24, .inl f20))]) (fun (r9 : Int32) (u9 : Unit) => (r9 = f16 (10 * (i 13).toNatClampNeg + (f20 (12 * (i 13).toNatClampNeg + x1.toNatClampNeg)).toNatClampNeg))) := by
  refine fun sz => k_enter (cc := cX7_rhymeOf) (maxL := 2) (ret := some (.int)) (Qc := fun A => va_Qi (fun (r9 : Int32) (u9 : Unit) => (r9 = f16 (10 * (i 13).toNatClampNeg + (f20 (12 * (i 13).toNatClampNeg + x1.toNatClampNeg)).toNatClampNeg))) (fun u => k_B (dC, dI) vwCl (tyy cI cJ cZ cM) A ((fun (u9 : Unit) => [(h, .inr (7, oM r i j)), ((r 16), .inl (cI, 20, .inl f16)), ((r 20), .inl (cI, 24, .inl f20))]) u)) A) sz (by decide +kernel) rfl (Nat.le_of_ble_eq_true rfl) (fun p e s m args below meth c A ls H locs B hP hD hS hl => ?_)
  obtain ⟨hx, hb, hml, hown, hts, hr, hlk, hnm, hK, hA, hN, hC⟩ := id B
  have hown : s.vm.findClass RX7 = some m.cls := hown
  have hl : lv_has ls 2 [(0, .ref h), (1, .int x1)] := hl
  have w_0 : (Cond.fieldLink RX7 60 "WishSeaModel" "thingRhyme" "[I").before args s = true := hts _ (List.mem_of_getElem? (i := 1) rfl)
  have w_1 : (Cond.fieldLink RX7 51 "WishSeaModel" "bank" "I").before args s = true := hts _ (List.mem_of_getElem? (i := 2) rfl)
  have hinX7 : ∀ w ∈ u_ws RX7 TX7 92, w ∈ wsX7_rhymeOf := fun _ h => List.mem_cons_of_mem _ (List.mem_append_right _ h)
  refine lv_aload_n hx hb dX7_rhymeOf_0 rfl (lv_at hl 0 rfl) ?_
  refine k_get (D := (dC, dI)) (ci := 7) (v := .ref (r 16)) (C := RX7) (T := TX7) (N := 92) hx hb hts hinX7 hown hK hP 0 rfl rfl 16 (by decide) w_0 rfl rfl dX7_rhymeOf_1 ?_
  refine lv_bipush (v := 10) hx hb dX7_rhymeOf_4 (by decide +kernel) ?_
  refine lv_aload_n hx hb dX7_rhymeOf_6 rfl (lv_at hl 0 rfl) ?_
  have f_7_1 : iR (i 13) 0 1 := hI 13
  refine k_get (D := (dC, dI)) (ci := 7) (v := .int (i 13)) (C := RX7) (T := TX7) (N := 92) hx hb hts hinX7 hown hK hP 0 rfl rfl 13 (by decide) w_1 rfl rfl dX7_rhymeOf_7 ?_
  refine lv_imul hx hb dX7_rhymeOf_10 ?_
  refine lv_topi (fun y_10 ey_10 => ?_)
  have xy_10 : y_10.toInt = 10 * (i 13).toInt := i_mul ey_10 (iR_c (n := 10) (a := 10) (b := 10) (by decide +kernel) (by decide +kernel)) f_7_1 (by decide +kernel)
  have f_10_2 : iR y_10 0 10 := iR_mul ey_10 (iR_c (n := 10) (a := 10) (b := 10) (by decide +kernel) (by decide +kernel)) f_7_1 (by decide +kernel)
  refine lv_aload_n hx hb dX7_rhymeOf_11 rfl (lv_at hl 0 rfl) ?_
  refine lv_iload_n hx hb dX7_rhymeOf_12 rfl (lv_at hl 1 rfl) ?_
  refine k_ci (wc := [(h, .inr (7, oM r i j)), ((r 20), .inl (cI, 24, .inl f20))]) (wr := [((r 16), .inl (cI, 20, .inl f16))]) (fun hPc hDc hFc => va_runV (As := [.int x1]) (rest := [.int y_10, .ref (r 16)]) ⟨hx, hb, hml, hown, hts⟩ (s_X7_givesOf_v0 l dC dI cI cJ cZ cM h r i j x1 f20 hx1 hI hf20 H.size) (cwV 1 hts gX7_rhymeOf_X7_givesOf rfl rfl rfl (by decide +kernel) ⟨(Nat.le_of_ble_eq_true rfl), (Nat.le_of_ble_eq_true rfl)⟩) (k_pV hPc hDc hK hN hC hS hFc hP (q0 := 0) (ci := 7) rfl rfl) rfl rfl hl.1 rfl (lv_room (Nat.le_of_ble_eq_true rfl)) dX7_rhymeOf_13 ⟨(Nat.le_of_ble_eq_true rfl), (Nat.le_of_ble_eq_true rfl)⟩) hP hD hS hA [0, 2] [1] rfl rfl rfl rfl (by decide) (fun _ => rfl) 0 0 rfl rfl (fun r_13 u_13 H locs hw hP hD hS => ?_)
  obtain ⟨g_13_0, g_13_1⟩ := hw
  have hP : va_P (dC, dI) vwCl [((r 16), .inl (cI, 20, .inl f16)), (h, .inr (7, oM r i j)), ((r 20), .inl (cI, 24, .inl f20))] H := hP
  have hD : va_D A [((r 16), .inl (cI, 20, .inl f16)), (h, .inr (7, oM r i j)), ((r 20), .inl (cI, 24, .inl f20))] := hD
  have g_13_1 : r_13 = f20 (12 * (i 13).toNatClampNeg + x1.toNatClampNeg) := g_13_1
  refine lv_iadd hx hb dX7_rhymeOf_16 ?_
  refine lv_topi (fun y_16 ey_16 => ?_)
  have xy_16 : y_16.toInt = y_10.toInt + r_13.toInt := i_add ey_16 f_10_2 g_13_0 (by decide +kernel)
  have f_16_3 : iR y_16 0 19 := iR_add ey_16 f_10_2 g_13_0 (by decide +kernel)
  refine va_iald hx hb hK hP 0 0 rfl rfl (iR_vp f_16_3 (by decide +kernel)) dX7_rhymeOf_17 ?_
  exact k_ri B hP hD hS dX7_rhymeOf_18 () [1, 0, 2] rfl rfl rfl (Nat.le_of_ble_eq_true rfl) (Nat.le_of_ble_eq_true rfl) (show (f16 y_16.toNatClampNeg) = f16 (10 * (i 13).toNatClampNeg + (f20 (12 * (i 13).toNatClampNeg + x1.toNatClampNeg)).toNatClampNeg) from (by have ei : y_16.toNatClampNeg = 10 * (i 13).toNatClampNeg + r_13.toNatClampNeg := (by have c0 := iR_cn f_16_3 (by decide +kernel); have c1 := iR_cn f_7_1 (by decide +kernel); have c2 := iR_cn g_13_0 (by decide +kernel); omega); rw [g_13_1] at ei; exact congrArg f16 ei))
set_option maxHeartbeats 8000000 in
set_option maxRecDepth 100000 in
theorem s_X7_part_v0 (l : Launch) (dC : Nat → ClassId) (dI : Nat → Nat → Nat) (cI cJ cZ cM : ClassId) (h : Nat) (r : Nat → Nat) (i : Nat → Int32) (j : Nat → Int64) (x1 : Int32) (x2 : Int32) (f14 : Nat → Int32) (f15 : Nat → Int32) (f16 : Nat → Int32) (f19 : Nat → Int32) (f20 : Nat → Int32) (hI : mR i) (hf14 : aR f14 0 10) (hf15 : aR f15 0 9999) (hf20 : aR f20 0 9) : k_Ml l yX7_part wsX7_part ({ frames := 3, cells := 0, slots := 0, locals := 84 }) (dC, dI) vwCl (tyy cI cJ cZ cM) [(h, .inr (7, oM r i j)), ((r 14), .inl (cI, 2, .inl f14)), ((r 15), .inl (cI, 20, .inl f15)), ((r 16), .inl (cI, 20, .inl f16)), ((r 19), .inl (cI, 24, .inl f19)), ((r 20), .inl (cI, 24, .inl f20))] [.ref h, .int x1, .int x2] 0 0 (fun (u9 : Unit) => [(h, .inr (7, oM r i j)), ((r 14), .inl (cI, 2, .inl f14)), ((r 15), .inl (cI, 20, .inl f15)), ((r 16), .inl (cI, 20, .inl f16)), ((r 19), .inl (cI, 24, .inl f19)), ((r 20), .inl (cI, 24, .inl f20))]) (fun (r9 : Int64) (u9 : Unit) => (r9 = prt x1 x2 (envf f14 f15 f16 f19 f20 (i 13) (i 62) (i 63) (i 64) (i 65) (i 66)))) := by
  refine fun sz => k_enter (cc := cX7_part) (maxL := 3) (ret := some (.long)) (Qc := fun A => va_Ql (fun (r9 : Int64) (u9 : Unit) => (r9 = prt x1 x2 (envf f14 f15 f16 f19 f20 (i 13) (i 62) (i 63) (i 64) (i 65) (i 66)))) (fun u => k_B (dC, dI) vwCl (tyy cI cJ cZ cM) A ((fun (u9 : Unit) => [(h, .inr (7, oM r i j)), ((r 14), .inl (cI, 2, .inl f14)), ((r 15), .inl (cI, 20, .inl f15)), ((r 16), .inl (cI, 20, .inl f16)), ((r 19), .inl (cI, 24, .inl f19)), ((r 20), .inl (cI, 24, .inl f20))]) u)) A) sz (by decide +kernel) rfl (Nat.le_of_ble_eq_true rfl) (fun p e s m args below meth c A ls H locs B hP hD hS hl => ?_)
  obtain ⟨hx, hb, hml, hown, hts, hr, hlk, hnm, hK, hA, hN, hC⟩ := id B
  have hown : s.vm.findClass RX7 = some m.cls := hown
  have hl : lv_has ls 3 [(0, .ref h), (1, .int x1), (2, .int x2)] := hl
  have w_0 : (Cond.fieldLink RX7 201 "WishSeaModel" "askedHad" "I").before args s = true := hts _ (List.mem_of_getElem? (i := 1) rfl)
  have w_1 : (Cond.fieldLink RX7 204 "WishSeaModel" "askedSea" "I").before args s = true := hts _ (List.mem_of_getElem? (i := 2) rfl)
  have w_2 : (Cond.fieldLink RX7 207 "WishSeaModel" "askedSaid" "I").before args s = true := hts _ (List.mem_of_getElem? (i := 3) rfl)
  have w_3 : (Cond.fieldLink RX7 210 "WishSeaModel" "askedDay" "I").before args s = true := hts _ (List.mem_of_getElem? (i := 4) rfl)
  have w_4 : (Cond.fieldLink RX7 213 "WishSeaModel" "askedWish" "I").before args s = true := hts _ (List.mem_of_getElem? (i := 5) rfl)
  have hinX7 : ∀ w ∈ u_ws RX7 TX7 92, w ∈ wsX7_part := fun _ h => List.mem_cons_of_mem _ (List.mem_append_right _ h)
  refine lv_iload_n hx hb dX7_part_0 rfl (lv_at hl 1 rfl) ?_
  rcases (show x1.toInt = 0 ∨ x1.toInt = 1 ∨ x1.toInt = 2 ∨ x1.toInt = 3 ∨ x1.toInt = 4 ∨ x1.toInt = 5 ∨ x1.toInt = 6 ∨ x1.toInt = 7 ∨ (¬ x1.toInt = 0 ∧ ¬ x1.toInt = 1 ∧ ¬ x1.toInt = 2 ∧ ¬ x1.toInt = 3 ∧ ¬ x1.toInt = 4 ∧ ¬ x1.toInt = 5 ∧ ¬ x1.toInt = 6 ∧ ¬ x1.toInt = 7) by omega) with c_1 | c_1 | c_1 | c_1 | c_1 | c_1 | c_1 | c_1 | c_1
  · have f_48_1 : iR x1 0 0 := iR_c c_1 (by decide +kernel)
    refine lv_tableIn (off := 47) (tgt := 48) hx hb dX7_part_1 (by rw [c_1]; decide) (by rw [c_1]; decide) (by rw [c_1]; decide +kernel) (by decide +kernel) ?_
    refine lv_iload_n hx hb dX7_part_48 rfl (lv_at hl 2 rfl) ?_
    refine lv_i2l (v := x2.toInt64) hx hb dX7_part_49 rfl ?_
    refine lv_topl (fun y_49 ey_49 => ?_)
    exact k_rl B hP hD hS dX7_part_50 () [0, 1, 2, 3, 4, 5] rfl rfl (Nat.le_of_ble_eq_true rfl) (Nat.le_of_ble_eq_true rfl) (show y_49 = prt x1 x2 (envf f14 f15 f16 f19 f20 (i 13) (i 62) (i 63) (i 64) (i 65) (i 66)) from (prt_0 (k_eqL (by decide +kernel) c_1) ey_49))
  · have f_51_1 : iR x1 1 1 := iR_c c_1 (by decide +kernel)
    refine lv_tableIn (off := 50) (tgt := 51) hx hb dX7_part_1 (by rw [c_1]; decide) (by rw [c_1]; decide) (by rw [c_1]; decide +kernel) (by decide +kernel) ?_
    refine lv_aload_n hx hb dX7_part_51 rfl (lv_at hl 0 rfl) ?_
    refine lv_aload_n hx hb dX7_part_52 rfl (lv_at hl 0 rfl) ?_
    refine k_get (D := (dC, dI)) (ci := 7) (v := .int (i 62)) (C := RX7) (T := TX7) (N := 92) hx hb hts hinX7 hown hK hP 0 rfl rfl 62 (by decide) w_0 rfl rfl dX7_part_53 ?_
    refine k_ci (wc := [(h, .inr (7, oM r i j)), ((r 14), .inl (cI, 2, .inl f14)), ((r 15), .inl (cI, 20, .inl f15))]) (wr := [((r 16), .inl (cI, 20, .inl f16)), ((r 19), .inl (cI, 24, .inl f19)), ((r 20), .inl (cI, 24, .inl f20))]) (fun hPc hDc hFc => va_runV (As := [.int (i 62)]) (rest := []) ⟨hx, hb, hml, hown, hts⟩ (s_X7_worthOf_v0 l dC dI cI cJ cZ cM h r i j (i 62) f14 f15 hI hf14 hf15 H.size) (cwV 1 hts gX7_part_X7_worthOf rfl rfl rfl (by decide +kernel) ⟨(Nat.le_of_ble_eq_true rfl), (Nat.le_of_ble_eq_true rfl)⟩) (k_pV hPc hDc hK hN hC hS hFc hP (q0 := 0) (ci := 7) rfl rfl) rfl rfl hl.1 rfl (lv_room (Nat.le_of_ble_eq_true rfl)) dX7_part_56 ⟨(Nat.le_of_ble_eq_true rfl), (Nat.le_of_ble_eq_true rfl)⟩) hP hD hS hA [0, 1, 2] [3, 4, 5] rfl rfl rfl rfl (by decide) (fun _ => rfl) 0 0 rfl rfl (fun r_56 u_56 H locs hw hP hD hS => ?_)
    obtain ⟨g_56_0, g_56_1⟩ := hw
    have hP : va_P (dC, dI) vwCl [((r 16), .inl (cI, 20, .inl f16)), ((r 19), .inl (cI, 24, .inl f19)), ((r 20), .inl (cI, 24, .inl f20)), (h, .inr (7, oM r i j)), ((r 14), .inl (cI, 2, .inl f14)), ((r 15), .inl (cI, 20, .inl f15))] H := hP
    have hD : va_D A [((r 16), .inl (cI, 20, .inl f16)), ((r 19), .inl (cI, 24, .inl f19)), ((r 20), .inl (cI, 24, .inl f20)), (h, .inr (7, oM r i j)), ((r 14), .inl (cI, 2, .inl f14)), ((r 15), .inl (cI, 20, .inl f15))] := hD
    have g_56_1 : r_56 = wof f15 (i 13).toNatClampNeg (i 62) (f14 (i 13).toNatClampNeg).toNatClampNeg := g_56_1
    refine lv_i2l (v := r_56.toInt64) hx hb dX7_part_59 rfl ?_
    refine lv_topl (fun y_59 ey_59 => ?_)
    exact k_rl B hP hD hS dX7_part_60 () [3, 4, 5, 0, 1, 2] rfl rfl (Nat.le_of_ble_eq_true rfl) (Nat.le_of_ble_eq_true rfl) (show y_59 = prt x1 x2 (envf f14 f15 f16 f19 f20 (i 13) (i 62) (i 63) (i 64) (i 65) (i 66)) from (prt_1 (k_eqL (by decide +kernel) c_1) ey_59 g_56_1))
  · have f_61_1 : iR x1 2 2 := iR_c c_1 (by decide +kernel)
    refine lv_tableIn (off := 60) (tgt := 61) hx hb dX7_part_1 (by rw [c_1]; decide) (by rw [c_1]; decide) (by rw [c_1]; decide +kernel) (by decide +kernel) ?_
    refine lv_aload_n hx hb dX7_part_61 rfl (lv_at hl 0 rfl) ?_
    refine k_get (D := (dC, dI)) (ci := 7) (v := .int (i 62)) (C := RX7) (T := TX7) (N := 92) hx hb hts hinX7 hown hK hP 0 rfl rfl 62 (by decide) w_0 rfl rfl dX7_part_62 ?_
    refine k_ci (wc := []) (wr := [(h, .inr (7, oM r i j)), ((r 14), .inl (cI, 2, .inl f14)), ((r 15), .inl (cI, 20, .inl f15)), ((r 16), .inl (cI, 20, .inl f16)), ((r 19), .inl (cI, 24, .inl f19)), ((r 20), .inl (cI, 24, .inl f20))]) (fun hPc hDc hFc => va_runS (As := [.int (i 62)]) (rest := []) ⟨hx, hb, hml, hown, hts⟩ (s_X7_bits_v0 l dC dI cI cJ cZ cM (i 62) H.size) (va_cwS 1 hts gX7_part_X7_bits rfl rfl rfl (by decide +kernel) ⟨(Nat.le_of_ble_eq_true rfl), (Nat.le_of_ble_eq_true rfl)⟩) (k_pS hPc hDc hK hN hC hS hFc) rfl rfl hl.1 rfl (lv_room (Nat.le_of_ble_eq_true rfl)) dX7_part_65 ⟨(Nat.le_of_ble_eq_true rfl), (Nat.le_of_ble_eq_true rfl)⟩) hP hD hS hA [] [0, 1, 2, 3, 4, 5] rfl rfl rfl rfl (by decide) (fun _ => rfl) 0 0 rfl rfl (fun r_65 u_65 H locs hw hP hD hS => ?_)
    have g_65_0 := hw
    have hP : va_P (dC, dI) vwCl [(h, .inr (7, oM r i j)), ((r 14), .inl (cI, 2, .inl f14)), ((r 15), .inl (cI, 20, .inl f15)), ((r 16), .inl (cI, 20, .inl f16)), ((r 19), .inl (cI, 24, .inl f19)), ((r 20), .inl (cI, 24, .inl f20))] H := hP
    have hD : va_D A [(h, .inr (7, oM r i j)), ((r 14), .inl (cI, 2, .inl f14)), ((r 15), .inl (cI, 20, .inl f15)), ((r 16), .inl (cI, 20, .inl f16)), ((r 19), .inl (cI, 24, .inl f19)), ((r 20), .inl (cI, 24, .inl f20))] := hD
    have g_65_0 : r_65 = bcf (i 62) := g_65_0
    refine lv_i2l (v := r_65.toInt64) hx hb dX7_part_68 rfl ?_
    refine lv_topl (fun y_68 ey_68 => ?_)
    exact k_rl B hP hD hS dX7_part_69 () [0, 1, 2, 3, 4, 5] rfl rfl (Nat.le_of_ble_eq_true rfl) (Nat.le_of_ble_eq_true rfl) (show y_68 = prt x1 x2 (envf f14 f15 f16 f19 f20 (i 13) (i 62) (i 63) (i 64) (i 65) (i 66)) from (prt_2 (k_eqL (by decide +kernel) c_1) ey_68 g_65_0))
  · have f_70_1 : iR x1 3 3 := iR_c c_1 (by decide +kernel)
    refine lv_tableIn (off := 69) (tgt := 70) hx hb dX7_part_1 (by rw [c_1]; decide) (by rw [c_1]; decide) (by rw [c_1]; decide +kernel) (by decide +kernel) ?_
    refine lv_aload_n hx hb dX7_part_70 rfl (lv_at hl 0 rfl) ?_
    refine k_get (D := (dC, dI)) (ci := 7) (v := .int (i 63)) (C := RX7) (T := TX7) (N := 92) hx hb hts hinX7 hown hK hP 0 rfl rfl 63 (by decide) w_1 rfl rfl dX7_part_71 ?_
    refine lv_i2l (v := (i 63).toInt64) hx hb dX7_part_74 rfl ?_
    refine lv_topl (fun y_74 ey_74 => ?_)
    exact k_rl B hP hD hS dX7_part_75 () [0, 1, 2, 3, 4, 5] rfl rfl (Nat.le_of_ble_eq_true rfl) (Nat.le_of_ble_eq_true rfl) (show y_74 = prt x1 x2 (envf f14 f15 f16 f19 f20 (i 13) (i 62) (i 63) (i 64) (i 65) (i 66)) from (prt_3 (k_eqL (by decide +kernel) c_1) ey_74 rfl))
  · have f_76_1 : iR x1 4 4 := iR_c c_1 (by decide +kernel)
    refine lv_tableIn (off := 75) (tgt := 76) hx hb dX7_part_1 (by rw [c_1]; decide) (by rw [c_1]; decide) (by rw [c_1]; decide +kernel) (by decide +kernel) ?_
    refine lv_aload_n hx hb dX7_part_76 rfl (lv_at hl 0 rfl) ?_
    refine k_get (D := (dC, dI)) (ci := 7) (v := .int (i 64)) (C := RX7) (T := TX7) (N := 92) hx hb hts hinX7 hown hK hP 0 rfl rfl 64 (by decide) w_2 rfl rfl dX7_part_77 ?_
    refine lv_i2l (v := (i 64).toInt64) hx hb dX7_part_80 rfl ?_
    refine lv_topl (fun y_80 ey_80 => ?_)
    exact k_rl B hP hD hS dX7_part_81 () [0, 1, 2, 3, 4, 5] rfl rfl (Nat.le_of_ble_eq_true rfl) (Nat.le_of_ble_eq_true rfl) (show y_80 = prt x1 x2 (envf f14 f15 f16 f19 f20 (i 13) (i 62) (i 63) (i 64) (i 65) (i 66)) from (prt_4 (k_eqL (by decide +kernel) c_1) ey_80 rfl))
  · have f_82_1 : iR x1 5 5 := iR_c c_1 (by decide +kernel)
    refine lv_tableIn (off := 81) (tgt := 82) hx hb dX7_part_1 (by rw [c_1]; decide) (by rw [c_1]; decide) (by rw [c_1]; decide +kernel) (by decide +kernel) ?_
    refine lv_aload_n hx hb dX7_part_82 rfl (lv_at hl 0 rfl) ?_
    refine k_get (D := (dC, dI)) (ci := 7) (v := .int (i 65)) (C := RX7) (T := TX7) (N := 92) hx hb hts hinX7 hown hK hP 0 rfl rfl 65 (by decide) w_3 rfl rfl dX7_part_83 ?_
    refine lv_i2l (v := (i 65).toInt64) hx hb dX7_part_86 rfl ?_
    refine lv_topl (fun y_86 ey_86 => ?_)
    exact k_rl B hP hD hS dX7_part_87 () [0, 1, 2, 3, 4, 5] rfl rfl (Nat.le_of_ble_eq_true rfl) (Nat.le_of_ble_eq_true rfl) (show y_86 = prt x1 x2 (envf f14 f15 f16 f19 f20 (i 13) (i 62) (i 63) (i 64) (i 65) (i 66)) from (prt_5 (k_eqL (by decide +kernel) c_1) ey_86 rfl))
  · have f_88_1 : iR x1 6 6 := iR_c c_1 (by decide +kernel)
    refine lv_tableIn (off := 87) (tgt := 88) hx hb dX7_part_1 (by rw [c_1]; decide) (by rw [c_1]; decide) (by rw [c_1]; decide +kernel) (by decide +kernel) ?_
    refine lv_aload_n hx hb dX7_part_88 rfl (lv_at hl 0 rfl) ?_
    have f_89_2 : iR (i 66) (-1) 11 := hI 66
    refine k_get (D := (dC, dI)) (ci := 7) (v := .int (i 66)) (C := RX7) (T := TX7) (N := 92) hx hb hts hinX7 hown hK hP 0 rfl rfl 66 (by decide) w_4 rfl rfl dX7_part_89 ?_
    refine lv_iconst (v := (-1)) hx hb dX7_part_92 (by decide +kernel) ?_
    refine lv_icmp_ne (tgt := 100) hx hb dX7_part_93 (by decide) (fun c_93 => ?_) (fun c_93 => ?_)
    · have c_93 : ¬ (i 66) = (-1) := c_93
      have f_100_3 : iR (i 66) 0 11 := iR_neL c_93 f_89_2 (iR_c (n := (-1)) (a := (-1)) (b := (-1)) (by decide +kernel) (by decide +kernel)) (by decide +kernel)
      refine lv_aload_n hx hb dX7_part_100 rfl (lv_at hl 0 rfl) ?_
      refine lv_aload_n hx hb dX7_part_101 rfl (lv_at hl 0 rfl) ?_
      refine k_get (D := (dC, dI)) (ci := 7) (v := .int (i 66)) (C := RX7) (T := TX7) (N := 92) hx hb hts hinX7 hown hK hP 0 rfl rfl 66 (by decide) w_4 rfl rfl dX7_part_102 ?_
      refine k_ci (wc := [(h, .inr (7, oM r i j)), ((r 19), .inl (cI, 24, .inl f19))]) (wr := [((r 14), .inl (cI, 2, .inl f14)), ((r 15), .inl (cI, 20, .inl f15)), ((r 16), .inl (cI, 20, .inl f16)), ((r 20), .inl (cI, 24, .inl f20))]) (fun hPc hDc hFc => va_runV (As := [.int (i 66)]) (rest := []) ⟨hx, hb, hml, hown, hts⟩ (s_X7_wordsOf_v0 l dC dI cI cJ cZ cM h r i j (i 66) f19 f_100_3 hI H.size) (cwV 1 hts gX7_part_X7_wordsOf rfl rfl rfl (by decide +kernel) ⟨(Nat.le_of_ble_eq_true rfl), (Nat.le_of_ble_eq_true rfl)⟩) (k_pV hPc hDc hK hN hC hS hFc hP (q0 := 0) (ci := 7) rfl rfl) rfl rfl hl.1 rfl (lv_room (Nat.le_of_ble_eq_true rfl)) dX7_part_105 ⟨(Nat.le_of_ble_eq_true rfl), (Nat.le_of_ble_eq_true rfl)⟩) hP hD hS hA [0, 4] [1, 2, 3, 5] rfl rfl rfl rfl (by decide) (fun _ => rfl) 0 0 rfl rfl (fun r_105 u_105 H locs hw hP hD hS => ?_)
      have g_105_0 := hw
      have hP : va_P (dC, dI) vwCl [((r 14), .inl (cI, 2, .inl f14)), ((r 15), .inl (cI, 20, .inl f15)), ((r 16), .inl (cI, 20, .inl f16)), ((r 20), .inl (cI, 24, .inl f20)), (h, .inr (7, oM r i j)), ((r 19), .inl (cI, 24, .inl f19))] H := hP
      have hD : va_D A [((r 14), .inl (cI, 2, .inl f14)), ((r 15), .inl (cI, 20, .inl f15)), ((r 16), .inl (cI, 20, .inl f16)), ((r 20), .inl (cI, 24, .inl f20)), (h, .inr (7, oM r i j)), ((r 19), .inl (cI, 24, .inl f19))] := hD
      have g_105_0 : r_105 = f19 (12 * (i 13).toNatClampNeg + (i 66).toNatClampNeg) := g_105_0
      refine lv_i2l (v := r_105.toInt64) hx hb dX7_part_108 rfl ?_
      refine lv_topl (fun y_108 ey_108 => ?_)
      exact k_rl B hP hD hS dX7_part_109 () [4, 0, 1, 2, 5, 3] rfl rfl (Nat.le_of_ble_eq_true rfl) (Nat.le_of_ble_eq_true rfl) (show y_108 = prt x1 x2 (envf f14 f15 f16 f19 f20 (i 13) (i 62) (i 63) (i 64) (i 65) (i 66)) from (prt_6 (k_eqL (by decide +kernel) c_1) ey_108 (g_105_0.trans (show _ = (envf f14 f15 f16 f19 f20 (i 13) (i 62) (i 63) (i 64) (i 65) (i 66)) 5 from (if_neg c_93).symm))))
    · have c_93 : (i 66) = (-1) := c_93
      have f_96_3 : iR (i 66) (-1) (-1) := iR_eqL c_93 f_89_2 (iR_c (n := (-1)) (a := (-1)) (b := (-1)) (by decide +kernel) (by decide +kernel)) (by decide +kernel)
      refine lv_lconst (v := 0) hx hb dX7_part_96 (by decide +kernel) ?_
      refine lv_goto (tgt := 109) hx hb dX7_part_97 (by decide) ?_
      exact k_rl B hP hD hS dX7_part_109 () [0, 1, 2, 3, 4, 5] rfl rfl (Nat.le_of_ble_eq_true rfl) (Nat.le_of_ble_eq_true rfl) (show 0 = prt x1 x2 (envf f14 f15 f16 f19 f20 (i 13) (i 62) (i 63) (i 64) (i 65) (i 66)) from (prt_6 (k_eqL (by decide +kernel) c_1) (prt_z (show (envf f14 f15 f16 f19 f20 (i 13) (i 62) (i 63) (i 64) (i 65) (i 66)) 5 = 0 from if_pos c_93) rfl) rfl))
  · have f_110_1 : iR x1 7 7 := iR_c c_1 (by decide +kernel)
    refine lv_tableIn (off := 109) (tgt := 110) hx hb dX7_part_1 (by rw [c_1]; decide) (by rw [c_1]; decide) (by rw [c_1]; decide +kernel) (by decide +kernel) ?_
    refine lv_aload_n hx hb dX7_part_110 rfl (lv_at hl 0 rfl) ?_
    have f_111_2 : iR (i 66) (-1) 11 := hI 66
    refine k_get (D := (dC, dI)) (ci := 7) (v := .int (i 66)) (C := RX7) (T := TX7) (N := 92) hx hb hts hinX7 hown hK hP 0 rfl rfl 66 (by decide) w_4 rfl rfl dX7_part_111 ?_
    refine lv_iconst (v := (-1)) hx hb dX7_part_114 (by decide +kernel) ?_
    refine lv_icmp_ne (tgt := 122) hx hb dX7_part_115 (by decide) (fun c_115 => ?_) (fun c_115 => ?_)
    · have c_115 : ¬ (i 66) = (-1) := c_115
      have f_122_3 : iR (i 66) 0 11 := iR_neL c_115 f_111_2 (iR_c (n := (-1)) (a := (-1)) (b := (-1)) (by decide +kernel) (by decide +kernel)) (by decide +kernel)
      refine lv_aload_n hx hb dX7_part_122 rfl (lv_at hl 0 rfl) ?_
      refine lv_aload_n hx hb dX7_part_123 rfl (lv_at hl 0 rfl) ?_
      refine k_get (D := (dC, dI)) (ci := 7) (v := .int (i 66)) (C := RX7) (T := TX7) (N := 92) hx hb hts hinX7 hown hK hP 0 rfl rfl 66 (by decide) w_4 rfl rfl dX7_part_124 ?_
      refine k_ci (wc := [(h, .inr (7, oM r i j)), ((r 16), .inl (cI, 20, .inl f16)), ((r 20), .inl (cI, 24, .inl f20))]) (wr := [((r 14), .inl (cI, 2, .inl f14)), ((r 15), .inl (cI, 20, .inl f15)), ((r 19), .inl (cI, 24, .inl f19))]) (fun hPc hDc hFc => va_runV (As := [.int (i 66)]) (rest := []) ⟨hx, hb, hml, hown, hts⟩ (s_X7_rhymeOf_v0 l dC dI cI cJ cZ cM h r i j (i 66) f16 f20 f_122_3 hI hf20 H.size) (cwV 1 hts gX7_part_X7_rhymeOf rfl rfl rfl (by decide +kernel) ⟨(Nat.le_of_ble_eq_true rfl), (Nat.le_of_ble_eq_true rfl)⟩) (k_pV hPc hDc hK hN hC hS hFc hP (q0 := 0) (ci := 7) rfl rfl) rfl rfl hl.1 rfl (lv_room (Nat.le_of_ble_eq_true rfl)) dX7_part_127 ⟨(Nat.le_of_ble_eq_true rfl), (Nat.le_of_ble_eq_true rfl)⟩) hP hD hS hA [0, 3, 5] [1, 2, 4] rfl rfl rfl rfl (by decide) (fun _ => rfl) 0 0 rfl rfl (fun r_127 u_127 H locs hw hP hD hS => ?_)
      have g_127_0 := hw
      have hP : va_P (dC, dI) vwCl [((r 14), .inl (cI, 2, .inl f14)), ((r 15), .inl (cI, 20, .inl f15)), ((r 19), .inl (cI, 24, .inl f19)), (h, .inr (7, oM r i j)), ((r 16), .inl (cI, 20, .inl f16)), ((r 20), .inl (cI, 24, .inl f20))] H := hP
      have hD : va_D A [((r 14), .inl (cI, 2, .inl f14)), ((r 15), .inl (cI, 20, .inl f15)), ((r 19), .inl (cI, 24, .inl f19)), (h, .inr (7, oM r i j)), ((r 16), .inl (cI, 20, .inl f16)), ((r 20), .inl (cI, 24, .inl f20))] := hD
      have g_127_0 : r_127 = f16 (10 * (i 13).toNatClampNeg + (f20 (12 * (i 13).toNatClampNeg + (i 66).toNatClampNeg)).toNatClampNeg) := g_127_0
      refine lv_i2l (v := r_127.toInt64) hx hb dX7_part_130 rfl ?_
      refine lv_topl (fun y_130 ey_130 => ?_)
      exact k_rl B hP hD hS dX7_part_131 () [3, 0, 1, 4, 2, 5] rfl rfl (Nat.le_of_ble_eq_true rfl) (Nat.le_of_ble_eq_true rfl) (show y_130 = prt x1 x2 (envf f14 f15 f16 f19 f20 (i 13) (i 62) (i 63) (i 64) (i 65) (i 66)) from (prt_7 (k_eqL (by decide +kernel) c_1) ey_130 (g_127_0.trans (show _ = (envf f14 f15 f16 f19 f20 (i 13) (i 62) (i 63) (i 64) (i 65) (i 66)) 6 from (if_neg c_115).symm))))
    · have c_115 : (i 66) = (-1) := c_115
      have f_118_3 : iR (i 66) (-1) (-1) := iR_eqL c_115 f_111_2 (iR_c (n := (-1)) (a := (-1)) (b := (-1)) (by decide +kernel) (by decide +kernel)) (by decide +kernel)
      refine lv_lconst (v := 0) hx hb dX7_part_118 (by decide +kernel) ?_
      refine lv_goto (tgt := 131) hx hb dX7_part_119 (by decide) ?_
      exact k_rl B hP hD hS dX7_part_131 () [0, 1, 2, 3, 4, 5] rfl rfl (Nat.le_of_ble_eq_true rfl) (Nat.le_of_ble_eq_true rfl) (show 0 = prt x1 x2 (envf f14 f15 f16 f19 f20 (i 13) (i 62) (i 63) (i 64) (i 65) (i 66)) from (prt_7 (k_eqL (by decide +kernel) c_1) (prt_z (show (envf f14 f15 f16 f19 f20 (i 13) (i 62) (i 63) (i 64) (i 65) (i 66)) 6 = 0 from if_pos c_115) rfl) rfl))
  · refine lv_tableOut (tgt := 132) hx hb dX7_part_1 (by omega) (by decide +kernel) ?_
    refine lv_lconst (v := 1) hx hb dX7_part_132 (by decide +kernel) ?_
    exact k_rl B hP hD hS dX7_part_133 () [0, 1, 2, 3, 4, 5] rfl rfl (Nat.le_of_ble_eq_true rfl) (Nat.le_of_ble_eq_true rfl) (show 1 = prt x1 x2 (envf f14 f15 f16 f19 f20 (i 13) (i 62) (i 63) (i 64) (i 65) (i 66)) from (prt_d c_1))
set_option maxHeartbeats 8000000 in
set_option maxRecDepth 100000 in
theorem s_X7_reckons_v0 (l : Launch) (dC : Nat → ClassId) (dI : Nat → Nat → Nat) (cI cJ cZ cM : ClassId) (h : Nat) (r : Nat → Nat) (i : Nat → Int32) (j : Nat → Int64) (x1 : Int32) (x2 : Int32) (f14 : Nat → Int32) (f15 : Nat → Int32) (f16 : Nat → Int32) (f19 : Nat → Int32) (f20 : Nat → Int32) (f32 : Nat → Int32) (f33 : Nat → Int32) (g61 : Nat → Int64) (hx1 : iR x1 0 1600) (hx2 : iR x2 0 1600) (hI : mR i) (hf14 : aR f14 0 10) (hf15 : aR f15 0 9999) (hf20 : aR f20 0 9) (hcd : CD f32 (i 13).toNatClampNeg x1 x2) : k_Ml l yX7_reckons wsX7_reckons ({ frames := 4, cells := 0, slots := 0, locals := 106 }) (dC, dI) vwCl (tyy cI cJ cZ cM) [(h, .inr (7, oM r i j)), ((r 14), .inl (cI, 2, .inl f14)), ((r 15), .inl (cI, 20, .inl f15)), ((r 16), .inl (cI, 20, .inl f16)), ((r 19), .inl (cI, 24, .inl f19)), ((r 20), .inl (cI, 24, .inl f20)), ((r 32), .inl (cI, 3200, .inl f32)), ((r 33), .inl (cI, 3200, .inl f33)), ((r 61), .inl (cJ, 500, .inr (.inl g61)))] [.ref h, .int x1, .int x2] 0 0 (fun (u9 : SU) => [(h, .inr (7, oM r i j)), ((r 14), .inl (cI, 2, .inl f14)), ((r 15), .inl (cI, 20, .inl f15)), ((r 16), .inl (cI, 20, .inl f16)), ((r 19), .inl (cI, 24, .inl f19)), ((r 20), .inl (cI, 24, .inl f20)), ((r 32), .inl (cI, 3200, .inl f32)), ((r 33), .inl (cI, 3200, .inl f33)), ((r 61), .inl (cJ, 500, .inr (.inl (u9.2.2.2.1 0))))]) (fun (r9 : Int64) (u9 : SU) => (r9 = rkv f32 f33 (envf f14 f15 f16 f19 f20 (i 13) (i 62) (i 63) (i 64) (i 65) (i 66)) (i 13).toNatClampNeg x1 x2)) := by
  refine fun sz => k_enter (cc := cX7_reckons) (maxL := 6) (ret := some (.long)) (Qc := fun A => va_Ql (fun (r9 : Int64) (u9 : SU) => (r9 = rkv f32 f33 (envf f14 f15 f16 f19 f20 (i 13) (i 62) (i 63) (i 64) (i 65) (i 66)) (i 13).toNatClampNeg x1 x2)) (fun u => k_B (dC, dI) vwCl (tyy cI cJ cZ cM) A ((fun (u9 : SU) => [(h, .inr (7, oM r i j)), ((r 14), .inl (cI, 2, .inl f14)), ((r 15), .inl (cI, 20, .inl f15)), ((r 16), .inl (cI, 20, .inl f16)), ((r 19), .inl (cI, 24, .inl f19)), ((r 20), .inl (cI, 24, .inl f20)), ((r 32), .inl (cI, 3200, .inl f32)), ((r 33), .inl (cI, 3200, .inl f33)), ((r 61), .inl (cJ, 500, .inr (.inl (u9.2.2.2.1 0))))]) u)) A) sz (by decide +kernel) rfl (Nat.le_of_ble_eq_true rfl) (fun p e s m args below meth c A ls H locs B hP hD hS hl => ?_)
  obtain ⟨hx, hb, hml, hown, hts, hr, hlk, hnm, hK, hA, hN, hC⟩ := id B
  have hown : s.vm.findClass RX7 = some m.cls := hown
  have hl : lv_has ls 6 [(0, .ref h), (1, .int x1), (2, .int x2)] := hl
  have w_0 : (Cond.fieldLink RX7 51 "WishSeaModel" "bank" "I").before args s = true := hts _ (List.mem_of_getElem? (i := 1) rfl)
  have w_1 : (Cond.fieldLink RX7 198 "WishSeaModel" "stack" "[J").before args s = true := hts _ (List.mem_of_getElem? (i := 3) rfl)
  have w_2 : (Cond.fieldLink RX7 108 "WishSeaModel" "codeSort" "[I").before args s = true := hts _ (List.mem_of_getElem? (i := 2) rfl)
  have w_3 : (Cond.fieldLink RX7 111 "WishSeaModel" "codeValue" "[I").before args s = true := hts _ (List.mem_of_getElem? (i := 4) rfl)
  have hinX7 : ∀ w ∈ u_ws RX7 TX7 92, w ∈ wsX7_reckons := fun _ h => List.mem_cons_of_mem _ (List.mem_append_right _ h)
  refine lv_iconst (v := 0) hx hb dX7_reckons_0 (by decide +kernel) ?_
  refine lv_istore_n (lv' := [(3, .int 0), (0, .ref h), (1, .int x1), (2, .int x2)]) hx hb dX7_reckons_1 rfl hl (by decide) rfl (fun ls hl => ?_)
  refine lv_sipush (v := 1600) hx hb dX7_reckons_2 (by decide +kernel) ?_
  refine lv_aload_n hx hb dX7_reckons_5 rfl (lv_at hl 1 rfl) ?_
  have f_6_1 : iR (i 13) 0 1 := hI 13
  refine k_get (D := (dC, dI)) (ci := 7) (v := .int (i 13)) (C := RX7) (T := TX7) (N := 92) hx hb hts hinX7 hown hK hP 0 rfl rfl 13 (by decide) w_0 rfl rfl dX7_reckons_6 ?_
  refine lv_imul hx hb dX7_reckons_9 ?_
  refine lv_topi (fun y_9 ey_9 => ?_)
  have xy_9 : y_9.toInt = 1600 * (i 13).toInt := i_mul ey_9 (iR_c (n := 1600) (a := 1600) (b := 1600) (by decide +kernel) (by decide +kernel)) f_6_1 (by decide +kernel)
  have f_9_2 : iR y_9 0 1600 := iR_mul ey_9 (iR_c (n := 1600) (a := 1600) (b := 1600) (by decide +kernel) (by decide +kernel)) f_6_1 (by decide +kernel)
  refine lv_iload_n hx hb dX7_reckons_10 rfl (lv_at hl 2 rfl) ?_
  refine lv_iadd hx hb dX7_reckons_11 ?_
  refine lv_topi (fun y_11 ey_11 => ?_)
  have xy_11 : y_11.toInt = y_9.toInt + x1.toInt := i_add ey_11 f_9_2 hx1 (by decide +kernel)
  have f_11_3 : iR y_11 0 3200 := iR_add ey_11 f_9_2 hx1 (by decide +kernel)
  have J_14 : ∀ (n_14 : Nat) (j14_A8 : Nat → Int64) (j14_L3 : Int32) (j14_L4 : Int32) (hj14_L3 : iR j14_L3 0 400) (hj14_L4 : iR j14_L4 0 3200) (p14_0 : RK f32 f33 (envf f14 f15 f16 f19 f20 (i 13) (i 62) (i 63) (i 64) (i 65) (i 66)) (i 13).toNatClampNeg x1 x2 j14_L4 j14_A8 j14_L3) (hm_14 : (3200 - j14_L4.toInt).toNat < n_14) (H : Heap) (locs : List Loc) (ls : Array Slot), va_P (dC, dI) vwCl [(h, .inr (7, oM r i j)), ((r 14), .inl (cI, 2, .inl f14)), ((r 15), .inl (cI, 20, .inl f15)), ((r 16), .inl (cI, 20, .inl f16)), ((r 19), .inl (cI, 24, .inl f19)), ((r 20), .inl (cI, 24, .inl f20)), ((r 32), .inl (cI, 3200, .inl f32)), ((r 33), .inl (cI, 3200, .inl f33)), ((r 61), .inl (cJ, 500, .inr (.inl j14_A8)))] H → va_D A [(h, .inr (7, oM r i j)), ((r 14), .inl (cI, 2, .inl f14)), ((r 15), .inl (cI, 20, .inl f15)), ((r 16), .inl (cI, 20, .inl f16)), ((r 19), .inl (cI, 24, .inl f19)), ((r 20), .inl (cI, 24, .inl f20)), ((r 32), .inl (cI, 3200, .inl f32)), ((r 33), .inl (cI, 3200, .inl f33)), ((r 61), .inl (cJ, 500, .inr (.inl j14_A8)))] → va_S A s.heap H locs → lv_has ls 6 [(0, .ref h), (2, .int x2), (3, .int j14_L3), (4, .int j14_L4)] → W p l e ({ frames := 4, cells := 0, slots := 0, locals := 106 }) s m args below meth c H locs 0 0 (MQ below (va_Ql (fun (r9 : Int64) (u9 : SU) => (r9 = rkv f32 f33 (envf f14 f15 f16 f19 f20 (i 13) (i 62) (i 63) (i 64) (i 65) (i 66)) (i 13).toNatClampNeg x1 x2)) (fun u => k_B (dC, dI) vwCl (tyy cI cJ cZ cM) A ((fun (u9 : SU) => [(h, .inr (7, oM r i j)), ((r 14), .inl (cI, 2, .inl f14)), ((r 15), .inl (cI, 20, .inl f15)), ((r 16), .inl (cI, 20, .inl f16)), ((r 19), .inl (cI, 24, .inl f19)), ((r 20), .inl (cI, 24, .inl f20)), ((r 32), .inl (cI, 3200, .inl f32)), ((r 33), .inl (cI, 3200, .inl f33)), ((r 61), .inl (cJ, 500, .inr (.inl (u9.2.2.2.1 0))))]) u)) A) args s 0 0 A) (F0 m 14 ls []) := by
    intro n_14
    induction n_14 with
    | zero => intro j14_A8 j14_L3 j14_L4 hj14_L3 hj14_L4 p14_0 hm_14; exact absurd hm_14 (Nat.not_lt_zero _)
    | succ n_14 ih_14 =>
      intro j14_A8 j14_L3 j14_L4 hj14_L3 hj14_L4 p14_0 hm_14 H locs ls hP hD hS hl
      refine lv_iload hx hb dX7_reckons_14 (lv_at hl 3 rfl) ?_
      refine lv_sipush (v := 1600) hx hb dX7_reckons_16 (by decide +kernel) ?_
      refine lv_aload_n hx hb dX7_reckons_19 rfl (lv_at hl 0 rfl) ?_
      refine k_get (D := (dC, dI)) (ci := 7) (v := .int (i 13)) (C := RX7) (T := TX7) (N := 92) hx hb hts hinX7 hown hK hP 0 rfl rfl 13 (by decide) w_0 rfl rfl dX7_reckons_20 ?_
      refine lv_imul hx hb dX7_reckons_23 ?_
      refine lv_topi (fun y_23 ey_23 => ?_)
      have xy_23 : y_23.toInt = 1600 * (i 13).toInt := i_mul ey_23 (iR_c (n := 1600) (a := 1600) (b := 1600) (by decide +kernel) (by decide +kernel)) f_6_1 (by decide +kernel)
      have f_23_1 : iR y_23 0 1600 := iR_mul ey_23 (iR_c (n := 1600) (a := 1600) (b := 1600) (by decide +kernel) (by decide +kernel)) f_6_1 (by decide +kernel)
      refine lv_iload_n hx hb dX7_reckons_24 rfl (lv_at hl 1 rfl) ?_
      refine lv_iadd hx hb dX7_reckons_25 ?_
      refine lv_topi (fun y_25 ey_25 => ?_)
      have xy_25 : y_25.toInt = y_23.toInt + x2.toInt := i_add ey_25 f_23_1 hx2 (by decide +kernel)
      have f_25_2 : iR y_25 0 3200 := iR_add ey_25 f_23_1 hx2 (by decide +kernel)
      refine lv_icmp_ge (tgt := 134) hx hb dX7_reckons_26 (by decide) (fun c_26 => ?_) (fun c_26 => ?_)
      · have c_26 : y_25 ≤ j14_L4 := c_26
        refine lv_aload_n hx hb dX7_reckons_134 rfl (lv_at hl 0 rfl) ?_
        refine k_get (D := (dC, dI)) (ci := 7) (v := .ref (r 61)) (C := RX7) (T := TX7) (N := 92) hx hb hts hinX7 hown hK hP 0 rfl rfl 61 (by decide) w_1 rfl rfl dX7_reckons_135 ?_
        refine lv_iconst (v := 0) hx hb dX7_reckons_138 (by decide +kernel) ?_
        refine k_lald (v := (j14_A8 0)) hx hb hK hP 8 1 0 rfl rfl rfl (Nat.le_of_ble_eq_true rfl) (Nat.le_of_ble_eq_true rfl) rfl dX7_reckons_139 ?_
        exact k_rl B hP hD hS dX7_reckons_140 ((fun _ => 0), (fun _ => 0), (fun _ => (fun _ => 0)), (fun k9 => match k9 with | 0 => j14_A8 | _ => (fun _ => 0)), (fun _ => 0)) [0, 1, 2, 3, 4, 5, 6, 7, 8] rfl rfl (Nat.le_of_ble_eq_true rfl) (Nat.le_of_ble_eq_true rfl) (show (j14_A8 0) = rkv f32 f33 (envf f14 f15 f16 f19 f20 (i 13) (i 62) (i 63) (i 64) (i 65) (i 66)) (i 13).toNatClampNeg x1 x2 from (RK_end p14_0 hcd (by have c0 := iR_cn f_6_1 (by decide +kernel); have z := i_ti_le rfl rfl c_26; omega)))
      · have c_26 : j14_L4 < y_25 := i_nle c_26
        have f_29_3 : iR j14_L4 0 3199 := iR_ltL c_26 hj14_L4 f_25_2 (by decide +kernel)
        have f_29_4 : iR y_25 1 3200 := iR_ltR c_26 hj14_L4 f_25_2 (by decide +kernel)
        refine lv_aload_n hx hb dX7_reckons_29 rfl (lv_at hl 0 rfl) ?_
        refine k_get (D := (dC, dI)) (ci := 7) (v := .ref (r 32)) (C := RX7) (T := TX7) (N := 92) hx hb hts hinX7 hown hK hP 0 rfl rfl 32 (by decide) w_2 rfl rfl dX7_reckons_30 ?_
        refine lv_iload hx hb dX7_reckons_33 (lv_at hl 3 rfl) ?_
        refine va_iald hx hb hK hP 6 0 rfl rfl (iR_vp f_29_3 (by decide +kernel)) dX7_reckons_35 ?_
        refine lv_istore (lv' := [(5, .int (f32 j14_L4.toNatClampNeg)), (0, .ref h), (2, .int x2), (3, .int j14_L3), (4, .int j14_L4)]) hx hb dX7_reckons_36 hl (by decide) rfl (fun ls hl => ?_)
        refine lv_iload hx hb dX7_reckons_38 (lv_at hl 0 rfl) ?_
        refine lv_bipush (v := 9) hx hb dX7_reckons_40 (by decide +kernel) ?_
        refine lv_icmp_gt (tgt := 70) hx hb dX7_reckons_42 (by decide) (fun c_42 => ?_) (fun c_42 => ?_)
        · have c_42 : 9 < (f32 j14_L4.toNatClampNeg) := c_42
          have f_70_5 : iR (f32 j14_L4.toNatClampNeg) 10 2147483647 := iR_ltR c_42 (iR_c (n := 9) (a := 9) (b := 9) (by decide +kernel) (by decide +kernel)) (iR_top _) (by decide +kernel)
          refine lv_iload hx hb dX7_reckons_70 (lv_at hl 0 rfl) ?_
          refine lv_bipush (v := 22) hx hb dX7_reckons_72 (by decide +kernel) ?_
          refine lv_icmp_ne (tgt := 98) hx hb dX7_reckons_74 (by decide) (fun c_74 => ?_) (fun c_74 => ?_)
          · have c_74 : ¬ (f32 j14_L4.toNatClampNeg) = 22 := c_74
            have ec_rk : j14_L4.toInt.toNat = j14_L4.toNatClampNeg := (by have c0 := iR_cn f_29_3 (by decide +kernel); omega)
            obtain ⟨rs_rk, rk_rk⟩ := RK_two p14_0 (by have c0 := iR_cn f_6_1 (by decide +kernel); have b1 : 0 ≤ (i 13).toInt ∧ (i 13).toInt ≤ 1 := f_6_1; omega) (by have z1 : 0 ≤ x1.toInt ∧ x1.toInt ≤ 1600 := hx1; omega) (by have z1 : 0 ≤ x1.toInt ∧ x1.toInt ≤ 1600 := hx1; have z2 : 0 ≤ x2.toInt ∧ x2.toInt ≤ 1600 := hx2; have z := hcd.2.1; omega) (by have c0 := iR_cn f_6_1 (by decide +kernel); have z := i_ti_lt rfl rfl c_26; omega) (by rw [ec_rk]; exact i_ti_lt (by decide) rfl c_42) (by rw [ec_rk]; exact i_ti_ne rfl (by decide) c_74)
            have f_98_6 : iR j14_L3 2 400 := (by have z := rs_rk; show 2 ≤ j14_L3.toInt ∧ j14_L3.toInt ≤ 400; omega)
            obtain ⟨y_98, ey_98⟩ : ∃ y : Int32, y = j14_L3 + (-1) := ⟨_, rfl⟩
            refine lv_iinc (v := y_98) (lv' := [(3, .int y_98), (5, .int (f32 j14_L4.toNatClampNeg)), (0, .ref h), (2, .int x2), (4, .int j14_L4)]) hx hb dX7_reckons_98 hl (k := 3) rfl ey_98.symm (by decide) rfl (fun ls hl => ?_)
            have f_98_7 : iR y_98 1 399 := iR_add ey_98 f_98_6 (iR_c (n := (-1)) (a := (-1)) (b := (-1)) (by decide +kernel) (by decide +kernel)) (by decide +kernel)
            have xy_98 : y_98.toInt = j14_L3.toInt + (-1) := i_add ey_98 f_98_6 (iR_c (n := (-1)) (a := (-1)) (b := (-1)) (by decide +kernel) (by decide +kernel)) (by decide +kernel)
            refine lv_aload_n hx hb dX7_reckons_101 rfl (lv_at hl 2 rfl) ?_
            refine k_get (D := (dC, dI)) (ci := 7) (v := .ref (r 61)) (C := RX7) (T := TX7) (N := 92) hx hb hts hinX7 hown hK hP 0 rfl rfl 61 (by decide) w_1 rfl rfl dX7_reckons_102 ?_
            refine lv_iload_n hx hb dX7_reckons_105 rfl (lv_at hl 0 rfl) ?_
            refine lv_iconst (v := 1) hx hb dX7_reckons_106 (by decide +kernel) ?_
            refine lv_isub hx hb dX7_reckons_107 ?_
            refine lv_topi (fun y_107 ey_107 => ?_)
            have xy_107 : y_107.toInt = y_98.toInt - 1 := i_sub ey_107 f_98_7 (iR_c (n := 1) (a := 1) (b := 1) (by decide +kernel) (by decide +kernel)) (by decide +kernel)
            have f_107_8 : iR y_107 0 398 := iR_sub ey_107 f_98_7 (iR_c (n := 1) (a := 1) (b := 1) (by decide +kernel) (by decide +kernel)) (by decide +kernel)
            refine lv_iload hx hb dX7_reckons_108 (lv_at hl 1 rfl) ?_
            refine lv_aload_n hx hb dX7_reckons_110 rfl (lv_at hl 2 rfl) ?_
            refine k_get (D := (dC, dI)) (ci := 7) (v := .ref (r 61)) (C := RX7) (T := TX7) (N := 92) hx hb hts hinX7 hown hK hP 0 rfl rfl 61 (by decide) w_1 rfl rfl dX7_reckons_111 ?_
            refine lv_iload_n hx hb dX7_reckons_114 rfl (lv_at hl 0 rfl) ?_
            refine lv_iconst (v := 1) hx hb dX7_reckons_115 (by decide +kernel) ?_
            refine lv_isub hx hb dX7_reckons_116 ?_
            refine lv_topi (fun y_116 ey_116 => ?_)
            have xy_116 : y_116.toInt = y_98.toInt - 1 := i_sub ey_116 f_98_7 (iR_c (n := 1) (a := 1) (b := 1) (by decide +kernel) (by decide +kernel)) (by decide +kernel)
            have f_116_9 : iR y_116 0 398 := iR_sub ey_116 f_98_7 (iR_c (n := 1) (a := 1) (b := 1) (by decide +kernel) (by decide +kernel)) (by decide +kernel)
            refine va_lald hx hb hK hP 8 1 rfl rfl (iR_vp f_116_9 (by decide +kernel)) dX7_reckons_117 ?_
            refine lv_aload_n hx hb dX7_reckons_118 rfl (lv_at hl 2 rfl) ?_
            refine k_get (D := (dC, dI)) (ci := 7) (v := .ref (r 61)) (C := RX7) (T := TX7) (N := 92) hx hb hts hinX7 hown hK hP 0 rfl rfl 61 (by decide) w_1 rfl rfl dX7_reckons_119 ?_
            refine lv_iload_n hx hb dX7_reckons_122 rfl (lv_at hl 0 rfl) ?_
            refine va_lald hx hb hK hP 8 1 rfl rfl (iR_vp f_98_7 (by decide +kernel)) dX7_reckons_123 ?_
            refine k_cl (wc := []) (wr := [(h, .inr (7, oM r i j)), ((r 14), .inl (cI, 2, .inl f14)), ((r 15), .inl (cI, 20, .inl f15)), ((r 16), .inl (cI, 20, .inl f16)), ((r 19), .inl (cI, 24, .inl f19)), ((r 20), .inl (cI, 24, .inl f20)), ((r 32), .inl (cI, 3200, .inl f32)), ((r 33), .inl (cI, 3200, .inl f33)), ((r 61), .inl (cJ, 500, .inr (.inl j14_A8)))]) (fun hPc hDc hFc => va_runS (As := [.int (f32 j14_L4.toNatClampNeg), .long (j14_A8 y_116.toNatClampNeg), .long (j14_A8 y_98.toNatClampNeg)]) (rest := [.int y_107, .ref (r 61)]) ⟨hx, hb, hml, hown, hts⟩ (s_X7_two_v0 l dC dI cI cJ cZ cM (f32 j14_L4.toNatClampNeg) (j14_A8 y_116.toNatClampNeg) (j14_A8 y_98.toNatClampNeg) H.size) (va_cwS 3 hts gX7_reckons_X7_two rfl rfl rfl (by decide +kernel) ⟨(Nat.le_of_ble_eq_true rfl), (Nat.le_of_ble_eq_true rfl)⟩) (k_pS hPc hDc hK hN hC hS hFc) rfl rfl hl.1 rfl (lv_room (Nat.le_of_ble_eq_true rfl)) dX7_reckons_124 ⟨(Nat.le_of_ble_eq_true rfl), (Nat.le_of_ble_eq_true rfl)⟩) hP hD hS hA [] [0, 1, 2, 3, 4, 5, 6, 7, 8] rfl rfl rfl rfl (by decide) (fun _ => rfl) 0 0 rfl rfl (fun r_124 u_124 H locs hw hP hD hS => ?_)
            have g_124_0 := hw
            have hP : va_P (dC, dI) vwCl [(h, .inr (7, oM r i j)), ((r 14), .inl (cI, 2, .inl f14)), ((r 15), .inl (cI, 20, .inl f15)), ((r 16), .inl (cI, 20, .inl f16)), ((r 19), .inl (cI, 24, .inl f19)), ((r 20), .inl (cI, 24, .inl f20)), ((r 32), .inl (cI, 3200, .inl f32)), ((r 33), .inl (cI, 3200, .inl f33)), ((r 61), .inl (cJ, 500, .inr (.inl j14_A8)))] H := hP
            have hD : va_D A [(h, .inr (7, oM r i j)), ((r 14), .inl (cI, 2, .inl f14)), ((r 15), .inl (cI, 20, .inl f15)), ((r 16), .inl (cI, 20, .inl f16)), ((r 19), .inl (cI, 24, .inl f19)), ((r 20), .inl (cI, 24, .inl f20)), ((r 32), .inl (cI, 3200, .inl f32)), ((r 33), .inl (cI, 3200, .inl f33)), ((r 61), .inl (cJ, 500, .inr (.inl j14_A8)))] := hD
            have g_124_0 : r_124 = twf (f32 j14_L4.toNatClampNeg) (j14_A8 y_116.toNatClampNeg) (j14_A8 y_98.toNatClampNeg) := g_124_0
            refine s_last (g := (vp_updL j14_A8 y_107.toNatClampNeg r_124)) (ws' := [(h, .inr (7, oM r i j)), ((r 14), .inl (cI, 2, .inl f14)), ((r 15), .inl (cI, 20, .inl f15)), ((r 16), .inl (cI, 20, .inl f16)), ((r 19), .inl (cI, 24, .inl f19)), ((r 20), .inl (cI, 24, .inl f20)), ((r 32), .inl (cI, 3200, .inl f32)), ((r 33), .inl (cI, 3200, .inl f33)), ((r 61), .inl (cJ, 500, .inr (.inl (vp_updL j14_A8 y_107.toNatClampNeg r_124))))]) hx hb hK hP hD hS 8 1 rfl rfl (iR_vp f_107_8 (by decide +kernel)) rfl rfl dX7_reckons_127 (fun H locs hP hD hS => ?_)
            obtain ⟨y_128p127, ey_128p127⟩ : ∃ y : Int32, y = j14_L4 + 1 := ⟨_, rfl⟩
            refine lv_iinc (v := y_128p127) (lv' := [(4, .int y_128p127), (3, .int y_98), (5, .int (f32 j14_L4.toNatClampNeg)), (0, .ref h), (2, .int x2)]) hx hb dX7_reckons_128 hl (k := 4) rfl ey_128p127.symm (by decide) rfl (fun ls hl => ?_)
            have f_128p127_10 : iR y_128p127 1 3200 := iR_add ey_128p127 f_29_3 (iR_c (n := 1) (a := 1) (b := 1) (by decide +kernel) (by decide +kernel)) (by decide +kernel)
            have xy_128p127 : y_128p127.toInt = j14_L4.toInt + 1 := i_add ey_128p127 f_29_3 (iR_c (n := 1) (a := 1) (b := 1) (by decide +kernel) (by decide +kernel)) (by decide +kernel)
            refine lv_goto (tgt := 14) hx hb dX7_reckons_131 (by decide) ?_
            exact ih_14 (vp_updL j14_A8 y_107.toNatClampNeg r_124) y_98 y_128p127 (iR_w f_98_7 (by decide +kernel)) (iR_w f_128p127_10 (by decide +kernel)) (show RK f32 f33 (envf f14 f15 f16 f19 f20 (i 13) (i 62) (i 63) (i 64) (i 65) (i 66)) (i 13).toNatClampNeg x1 x2 y_128p127 (vp_updL j14_A8 y_107.toNatClampNeg r_124) y_98 from (by have z := rk_rk y_128p127 y_98 r_124 ey_128p127 (by omega) (by rw [ec_rk, show (j14_L3.toInt - 2).toNat = y_116.toNatClampNeg by have c7 := iR_cn f_116_9 (by decide +kernel); omega, show (j14_L3.toInt - 1).toNat = y_98.toNatClampNeg by have c7 := iR_cn f_98_7 (by decide +kernel); omega]; exact g_124_0); rw [show (j14_L3.toInt - 2).toNat = y_107.toNatClampNeg by have c9 := iR_cn f_107_8 (by decide +kernel); omega] at z; exact z)) (m_up (B := 3200) hm_14 ey_128p127 f_29_3 (by decide +kernel)) H locs ls hP hD hS (lv_sub hl [3, 4, 1, 0] rfl)
          · have c_74 : (f32 j14_L4.toNatClampNeg) = 22 := c_74
            have f_77_6 : iR (f32 j14_L4.toNatClampNeg) 22 22 := iR_eqL c_74 f_70_5 (iR_c (n := 22) (a := 22) (b := 22) (by decide +kernel) (by decide +kernel)) (by decide +kernel)
            have ec_rk : j14_L4.toInt.toNat = j14_L4.toNatClampNeg := (by have c0 := iR_cn f_29_3 (by decide +kernel); omega)
            obtain ⟨rs_rk, rk_rk⟩ := RK_not p14_0 (by have c0 := iR_cn f_6_1 (by decide +kernel); have b1 : 0 ≤ (i 13).toInt ∧ (i 13).toInt ≤ 1 := f_6_1; omega) (by have z1 : 0 ≤ x1.toInt ∧ x1.toInt ≤ 1600 := hx1; omega) (by have z1 : 0 ≤ x1.toInt ∧ x1.toInt ≤ 1600 := hx1; have z2 : 0 ≤ x2.toInt ∧ x2.toInt ≤ 1600 := hx2; have z := hcd.2.1; omega) (by have c0 := iR_cn f_6_1 (by decide +kernel); have z := i_ti_lt rfl rfl c_26; omega) (by rw [ec_rk]; exact i_ti_eq rfl (by decide) c_74)
            have f_77_7 : iR j14_L3 1 400 := (by have z := rs_rk; show 1 ≤ j14_L3.toInt ∧ j14_L3.toInt ≤ 400; omega)
            refine lv_aload_n hx hb dX7_reckons_77 rfl (lv_at hl 1 rfl) ?_
            refine k_get (D := (dC, dI)) (ci := 7) (v := .ref (r 61)) (C := RX7) (T := TX7) (N := 92) hx hb hts hinX7 hown hK hP 0 rfl rfl 61 (by decide) w_1 rfl rfl dX7_reckons_78 ?_
            refine lv_iload_n hx hb dX7_reckons_81 rfl (lv_at hl 3 rfl) ?_
            refine lv_iconst (v := 1) hx hb dX7_reckons_82 (by decide +kernel) ?_
            refine lv_isub hx hb dX7_reckons_83 ?_
            refine lv_topi (fun y_83 ey_83 => ?_)
            have xy_83 : y_83.toInt = j14_L3.toInt - 1 := i_sub ey_83 f_77_7 (iR_c (n := 1) (a := 1) (b := 1) (by decide +kernel) (by decide +kernel)) (by decide +kernel)
            have f_83_8 : iR y_83 0 399 := iR_sub ey_83 f_77_7 (iR_c (n := 1) (a := 1) (b := 1) (by decide +kernel) (by decide +kernel)) (by decide +kernel)
            refine lv_lconst (v := 1) hx hb dX7_reckons_84 (by decide +kernel) ?_
            refine lv_aload_n hx hb dX7_reckons_85 rfl (lv_at hl 1 rfl) ?_
            refine k_get (D := (dC, dI)) (ci := 7) (v := .ref (r 61)) (C := RX7) (T := TX7) (N := 92) hx hb hts hinX7 hown hK hP 0 rfl rfl 61 (by decide) w_1 rfl rfl dX7_reckons_86 ?_
            refine lv_iload_n hx hb dX7_reckons_89 rfl (lv_at hl 3 rfl) ?_
            refine lv_iconst (v := 1) hx hb dX7_reckons_90 (by decide +kernel) ?_
            refine lv_isub hx hb dX7_reckons_91 ?_
            refine lv_topi (fun y_91 ey_91 => ?_)
            have xy_91 : y_91.toInt = j14_L3.toInt - 1 := i_sub ey_91 f_77_7 (iR_c (n := 1) (a := 1) (b := 1) (by decide +kernel) (by decide +kernel)) (by decide +kernel)
            have f_91_9 : iR y_91 0 399 := iR_sub ey_91 f_77_7 (iR_c (n := 1) (a := 1) (b := 1) (by decide +kernel) (by decide +kernel)) (by decide +kernel)
            refine va_lald hx hb hK hP 8 1 rfl rfl (iR_vp f_91_9 (by decide +kernel)) dX7_reckons_92 ?_
            refine lv_lsub hx hb dX7_reckons_93 ?_
            refine lv_topl (fun y_93 ey_93 => ?_)
            refine s_last (g := (vp_updL j14_A8 y_83.toNatClampNeg y_93)) (ws' := [(h, .inr (7, oM r i j)), ((r 14), .inl (cI, 2, .inl f14)), ((r 15), .inl (cI, 20, .inl f15)), ((r 16), .inl (cI, 20, .inl f16)), ((r 19), .inl (cI, 24, .inl f19)), ((r 20), .inl (cI, 24, .inl f20)), ((r 32), .inl (cI, 3200, .inl f32)), ((r 33), .inl (cI, 3200, .inl f33)), ((r 61), .inl (cJ, 500, .inr (.inl (vp_updL j14_A8 y_83.toNatClampNeg y_93))))]) hx hb hK hP hD hS 8 1 rfl rfl (iR_vp f_83_8 (by decide +kernel)) rfl rfl dX7_reckons_94 (fun H locs hP hD hS => ?_)
            refine lv_goto (tgt := 128) hx hb dX7_reckons_95 (by decide) ?_
            obtain ⟨y_128p95, ey_128p95⟩ : ∃ y : Int32, y = j14_L4 + 1 := ⟨_, rfl⟩
            refine lv_iinc (v := y_128p95) (lv' := [(4, .int y_128p95), (5, .int (f32 j14_L4.toNatClampNeg)), (0, .ref h), (2, .int x2), (3, .int j14_L3)]) hx hb dX7_reckons_128 hl (k := 4) rfl ey_128p95.symm (by decide) rfl (fun ls hl => ?_)
            have f_128p95_10 : iR y_128p95 1 3200 := iR_add ey_128p95 f_29_3 (iR_c (n := 1) (a := 1) (b := 1) (by decide +kernel) (by decide +kernel)) (by decide +kernel)
            have xy_128p95 : y_128p95.toInt = j14_L4.toInt + 1 := i_add ey_128p95 f_29_3 (iR_c (n := 1) (a := 1) (b := 1) (by decide +kernel) (by decide +kernel)) (by decide +kernel)
            refine lv_goto (tgt := 14) hx hb dX7_reckons_131 (by decide) ?_
            exact ih_14 (vp_updL j14_A8 y_83.toNatClampNeg y_93) j14_L3 y_128p95 (iR_w f_77_7 (by decide +kernel)) (iR_w f_128p95_10 (by decide +kernel)) (show RK f32 f33 (envf f14 f15 f16 f19 f20 (i 13) (i 62) (i 63) (i 64) (i 65) (i 66)) (i 13).toNatClampNeg x1 x2 y_128p95 (vp_updL j14_A8 y_83.toNatClampNeg y_93) j14_L3 from (by have z := rk_rk y_128p95 y_93 ey_128p95 (by rw [show (j14_L3.toInt - 1).toNat = y_91.toNatClampNeg by have c7 := iR_cn f_91_9 (by decide +kernel); omega]; exact ey_93); rw [show (j14_L3.toInt - 1).toNat = y_83.toNatClampNeg by have c9 := iR_cn f_83_8 (by decide +kernel); omega] at z; exact z)) (m_up (B := 3200) hm_14 ey_128p95 f_29_3 (by decide +kernel)) H locs ls hP hD hS (lv_sub hl [2, 3, 4, 0] rfl)
        · have c_42 : (f32 j14_L4.toNatClampNeg) ≤ 9 := i_nlt c_42
          have f_45_5 : iR (f32 j14_L4.toNatClampNeg) (-2147483648) 9 := iR_leL c_42 (iR_top _) (iR_c (n := 9) (a := 9) (b := 9) (by decide +kernel) (by decide +kernel)) (by decide +kernel)
          have ec_rk : j14_L4.toInt.toNat = j14_L4.toNatClampNeg := (by have c0 := iR_cn f_29_3 (by decide +kernel); omega)
          obtain ⟨rs_rk, rk_rk⟩ := RK_part p14_0 (by have c0 := iR_cn f_6_1 (by decide +kernel); have b1 : 0 ≤ (i 13).toInt ∧ (i 13).toInt ≤ 1 := f_6_1; omega) (by have z1 : 0 ≤ x1.toInt ∧ x1.toInt ≤ 1600 := hx1; omega) (by have z1 : 0 ≤ x1.toInt ∧ x1.toInt ≤ 1600 := hx1; have z2 : 0 ≤ x2.toInt ∧ x2.toInt ≤ 1600 := hx2; have z := hcd.2.1; omega) (by have c0 := iR_cn f_6_1 (by decide +kernel); have z := i_ti_lt rfl rfl c_26; omega) (by rw [ec_rk]; exact i_ti_le rfl (by decide) c_42)
          have f_45_6 : iR j14_L3 0 399 := (by have z := rs_rk; show 0 ≤ j14_L3.toInt ∧ j14_L3.toInt ≤ 399; omega)
          refine lv_aload_n hx hb dX7_reckons_45 rfl (lv_at hl 1 rfl) ?_
          refine k_get (D := (dC, dI)) (ci := 7) (v := .ref (r 61)) (C := RX7) (T := TX7) (N := 92) hx hb hts hinX7 hown hK hP 0 rfl rfl 61 (by decide) w_1 rfl rfl dX7_reckons_46 ?_
          refine lv_iload_n hx hb dX7_reckons_49 rfl (lv_at hl 3 rfl) ?_
          refine lv_aload_n hx hb dX7_reckons_50 rfl (lv_at hl 1 rfl) ?_
          refine lv_iload hx hb dX7_reckons_51 (lv_at hl 0 rfl) ?_
          refine lv_aload_n hx hb dX7_reckons_53 rfl (lv_at hl 1 rfl) ?_
          refine k_get (D := (dC, dI)) (ci := 7) (v := .ref (r 33)) (C := RX7) (T := TX7) (N := 92) hx hb hts hinX7 hown hK hP 0 rfl rfl 33 (by decide) w_3 rfl rfl dX7_reckons_54 ?_
          refine lv_iload hx hb dX7_reckons_57 (lv_at hl 4 rfl) ?_
          refine va_iald hx hb hK hP 7 0 rfl rfl (iR_vp f_29_3 (by decide +kernel)) dX7_reckons_59 ?_
          refine k_cl (wc := [(h, .inr (7, oM r i j)), ((r 14), .inl (cI, 2, .inl f14)), ((r 15), .inl (cI, 20, .inl f15)), ((r 16), .inl (cI, 20, .inl f16)), ((r 19), .inl (cI, 24, .inl f19)), ((r 20), .inl (cI, 24, .inl f20))]) (wr := [((r 32), .inl (cI, 3200, .inl f32)), ((r 33), .inl (cI, 3200, .inl f33)), ((r 61), .inl (cJ, 500, .inr (.inl j14_A8)))]) (fun hPc hDc hFc => va_runV (As := [.int (f32 j14_L4.toNatClampNeg), .int (f33 j14_L4.toNatClampNeg)]) (rest := [.int j14_L3, .ref (r 61)]) ⟨hx, hb, hml, hown, hts⟩ (s_X7_part_v0 l dC dI cI cJ cZ cM h r i j (f32 j14_L4.toNatClampNeg) (f33 j14_L4.toNatClampNeg) f14 f15 f16 f19 f20 hI hf14 hf15 hf20 H.size) (cwV 2 hts gX7_reckons_X7_part rfl rfl rfl (by decide +kernel) ⟨(Nat.le_of_ble_eq_true rfl), (Nat.le_of_ble_eq_true rfl)⟩) (k_pV hPc hDc hK hN hC hS hFc hP (q0 := 0) (ci := 7) rfl rfl) rfl rfl hl.1 rfl (lv_room (Nat.le_of_ble_eq_true rfl)) dX7_reckons_60 ⟨(Nat.le_of_ble_eq_true rfl), (Nat.le_of_ble_eq_true rfl)⟩) hP hD hS hA [0, 1, 2, 3, 4, 5] [6, 7, 8] rfl rfl rfl rfl (by decide) (fun _ => rfl) 0 0 rfl rfl (fun r_60 u_60 H locs hw hP hD hS => ?_)
          have g_60_0 := hw
          have hP : va_P (dC, dI) vwCl [((r 32), .inl (cI, 3200, .inl f32)), ((r 33), .inl (cI, 3200, .inl f33)), ((r 61), .inl (cJ, 500, .inr (.inl j14_A8))), (h, .inr (7, oM r i j)), ((r 14), .inl (cI, 2, .inl f14)), ((r 15), .inl (cI, 20, .inl f15)), ((r 16), .inl (cI, 20, .inl f16)), ((r 19), .inl (cI, 24, .inl f19)), ((r 20), .inl (cI, 24, .inl f20))] H := hP
          have hD : va_D A [((r 32), .inl (cI, 3200, .inl f32)), ((r 33), .inl (cI, 3200, .inl f33)), ((r 61), .inl (cJ, 500, .inr (.inl j14_A8))), (h, .inr (7, oM r i j)), ((r 14), .inl (cI, 2, .inl f14)), ((r 15), .inl (cI, 20, .inl f15)), ((r 16), .inl (cI, 20, .inl f16)), ((r 19), .inl (cI, 24, .inl f19)), ((r 20), .inl (cI, 24, .inl f20))] := hD
          have g_60_0 : r_60 = prt (f32 j14_L4.toNatClampNeg) (f33 j14_L4.toNatClampNeg) (envf f14 f15 f16 f19 f20 (i 13) (i 62) (i 63) (i 64) (i 65) (i 66)) := g_60_0
          refine s_last (g := (vp_updL j14_A8 j14_L3.toNatClampNeg r_60)) (ws' := [((r 32), .inl (cI, 3200, .inl f32)), ((r 33), .inl (cI, 3200, .inl f33)), ((r 61), .inl (cJ, 500, .inr (.inl (vp_updL j14_A8 j14_L3.toNatClampNeg r_60)))), (h, .inr (7, oM r i j)), ((r 14), .inl (cI, 2, .inl f14)), ((r 15), .inl (cI, 20, .inl f15)), ((r 16), .inl (cI, 20, .inl f16)), ((r 19), .inl (cI, 24, .inl f19)), ((r 20), .inl (cI, 24, .inl f20))]) hx hb hK hP hD hS 2 1 rfl rfl (iR_vp f_45_6 (by decide +kernel)) rfl rfl dX7_reckons_63 (fun H locs hP hD hS => ?_)
          obtain ⟨y_64, ey_64⟩ : ∃ y : Int32, y = j14_L3 + 1 := ⟨_, rfl⟩
          refine lv_iinc (v := y_64) (lv' := [(3, .int y_64), (5, .int (f32 j14_L4.toNatClampNeg)), (0, .ref h), (2, .int x2), (4, .int j14_L4)]) hx hb dX7_reckons_64 hl (k := 3) rfl ey_64.symm (by decide) rfl (fun ls hl => ?_)
          have f_64_7 : iR y_64 1 400 := iR_add ey_64 f_45_6 (iR_c (n := 1) (a := 1) (b := 1) (by decide +kernel) (by decide +kernel)) (by decide +kernel)
          have xy_64 : y_64.toInt = j14_L3.toInt + 1 := i_add ey_64 f_45_6 (iR_c (n := 1) (a := 1) (b := 1) (by decide +kernel) (by decide +kernel)) (by decide +kernel)
          refine lv_goto (tgt := 128) hx hb dX7_reckons_67 (by decide) ?_
          obtain ⟨y_128p67, ey_128p67⟩ : ∃ y : Int32, y = j14_L4 + 1 := ⟨_, rfl⟩
          refine lv_iinc (v := y_128p67) (lv' := [(4, .int y_128p67), (3, .int y_64), (5, .int (f32 j14_L4.toNatClampNeg)), (0, .ref h), (2, .int x2)]) hx hb dX7_reckons_128 hl (k := 4) rfl ey_128p67.symm (by decide) rfl (fun ls hl => ?_)
          have f_128p67_8 : iR y_128p67 1 3200 := iR_add ey_128p67 f_29_3 (iR_c (n := 1) (a := 1) (b := 1) (by decide +kernel) (by decide +kernel)) (by decide +kernel)
          have xy_128p67 : y_128p67.toInt = j14_L4.toInt + 1 := i_add ey_128p67 f_29_3 (iR_c (n := 1) (a := 1) (b := 1) (by decide +kernel) (by decide +kernel)) (by decide +kernel)
          refine lv_goto (tgt := 14) hx hb dX7_reckons_131 (by decide) ?_
          exact ih_14 (vp_updL j14_A8 j14_L3.toNatClampNeg r_60) y_64 y_128p67 (iR_w f_64_7 (by decide +kernel)) (iR_w f_128p67_8 (by decide +kernel)) (show RK f32 f33 (envf f14 f15 f16 f19 f20 (i 13) (i 62) (i 63) (i 64) (i 65) (i 66)) (i 13).toNatClampNeg x1 x2 y_128p67 (vp_updL j14_A8 j14_L3.toNatClampNeg r_60) y_64 from (by have z := rk_rk y_128p67 y_64 r_60 ey_128p67 ey_64 (by rw [ec_rk]; exact g_60_0); rw [show j14_L3.toInt.toNat = j14_L3.toNatClampNeg by have c8 := iR_cn f_45_6 (by decide +kernel); omega] at z; exact z)) (m_up (B := 3200) hm_14 ey_128p67 f_29_3 (by decide +kernel)) H locs ls (hP.sub [3, 4, 5, 6, 7, 8, 0, 1, 2] rfl) (hD.sub [3, 4, 5, 6, 7, 8, 0, 1, 2] (by decide +kernel) rfl) hS (lv_sub hl [3, 4, 1, 0] rfl)
  refine lv_istore (lv' := [(4, .int y_11), (3, .int 0), (0, .ref h), (1, .int x1), (2, .int x2)]) hx hb dX7_reckons_12 hl (by decide) rfl (fun ls hl => ?_)
  exact J_14 _ g61 0 y_11 (iR_c (n := 0) (a := 0) (b := 400) (by decide +kernel) (by decide +kernel)) f_11_3 (show RK f32 f33 (envf f14 f15 f16 f19 f20 (i 13) (i 62) (i 63) (i 64) (i 65) (i 66)) (i 13).toNatClampNeg x1 x2 y_11 g61 0 from (RK_0 hcd (by have c0 := iR_cn f_6_1 (by decide +kernel); omega))) (Nat.lt_succ_self _) H locs ls hP hD hS (lv_sub hl [2, 4, 1, 0] rfl)
