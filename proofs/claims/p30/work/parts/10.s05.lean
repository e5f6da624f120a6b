set_option maxHeartbeats 8000000 in
set_option maxRecDepth 100000 in
theorem s_X7_fault_v0 (l : Launch) (dC : Nat → ClassId) (dI : Nat → Nat → Nat) (cI cJ cZ cM : ClassId) (h : Nat) (r : Nat → Nat) (i : Nat → Int32) (j : Nat → Int64) (x1 : Int32) (hI : mR i) : k_Mi l yX7_fault wsX7_fault ({ frames := 1, cells := 0, slots := 0, locals := 40 }) (dC, dI) vwCl (tyy cI cJ cZ cM) [(h, .inr (7, oM r i j))] [.ref h, .int x1] 0 0 (fun (u9 : Unit) => [(h, .inr (7, oM r i j))]) (fun (r9 : Int32) (u9 : Unit) => True) := by
  refine fun sz => k_enter (cc := cX7_fault) (maxL := 2) (ret := some (.int)) (Qc := fun A => va_Qi (fun (r9 : Int32) (u9 : Unit) => True) (fun u => k_B (dC, dI) vwCl (tyy cI cJ cZ cM) A ((fun (u9 : Unit) => [(h, .inr (7, oM r i j))]) u)) A) sz (by decide +kernel) rfl (Nat.le_of_ble_eq_true rfl) (fun p e s m args below meth c A ls H locs B hP hD hS hl => ?_)
  obtain ⟨hx, hb, hml, hown, hts, hr, hlk, hnm, hK, hA, hN, hC⟩ := id B
  have hown : s.vm.findClass RX7 = some m.cls := hown
  have hl : lv_has ls 2 [(0, .ref h), (1, .int x1)] := hl
  have w_0 : (Cond.fieldLink RX7 45 "WishSeaModel" "toldPlace" "I").before args s = true := hts _ (List.mem_of_getElem? (i := 2) rfl)
  have w_1 : (Cond.fieldLink RX7 42 "WishSeaModel" "toldKind" "I").before args s = true := hts _ (List.mem_of_getElem? (i := 1) rfl)
  have hinX7 : ∀ w ∈ u_ws RX7 TX7 92, w ∈ wsX7_fault := fun _ h => List.mem_cons_of_mem _ (List.mem_append_right _ h)
  refine lv_iload_n hx hb dX7_fault_0 rfl (lv_at hl 1 rfl) ?_
  refine lv_if_ne (tgt := 11) hx hb dX7_fault_1 (by decide) (fun c_1 => ?_) (fun c_1 => ?_)
  · have c_1 : ¬ x1 = 0 := c_1
    refine lv_iload_n hx hb dX7_fault_11 rfl (lv_at hl 1 rfl) ?_
    refine lv_iconst (v := 1) hx hb dX7_fault_12 (by decide +kernel) ?_
    refine lv_icmp_ne (tgt := 23) hx hb dX7_fault_13 (by decide) (fun c_13 => ?_) (fun c_13 => ?_)
    · have c_13 : ¬ x1 = 1 := c_13
      refine lv_iconst (v := (-1)) hx hb dX7_fault_23 (by decide +kernel) ?_
      exact k_ri B hP hD hS dX7_fault_24 () [0] rfl rfl rfl (Nat.le_of_ble_eq_true rfl) (Nat.le_of_ble_eq_true rfl) trivial
    · have c_13 : x1 = 1 := c_13
      have f_16_1 : iR x1 1 1 := iR_eqL c_13 (iR_top _) (iR_c (n := 1) (a := 1) (b := 1) (by decide +kernel) (by decide +kernel)) (by decide +kernel)
      refine lv_aload_n hx hb dX7_fault_16 rfl (lv_at hl 0 rfl) ?_
      refine k_get (D := (dC, dI)) (ci := 7) (v := .int (i 11)) (C := RX7) (T := TX7) (N := 92) hx hb hts hinX7 hown hK hP 0 rfl rfl 11 (by decide) w_0 rfl rfl dX7_fault_17 ?_
      refine lv_goto (tgt := 24) hx hb dX7_fault_20 (by decide) ?_
      exact k_ri B hP hD hS dX7_fault_24 () [0] rfl rfl rfl (Nat.le_of_ble_eq_true rfl) (Nat.le_of_ble_eq_true rfl) trivial
  · have c_1 : x1 = 0 := c_1
    have f_4_1 : iR x1 0 0 := iR_eqL c_1 (iR_top _) (iR_c (n := 0) (a := 0) (b := 0) (by decide +kernel) (by decide +kernel)) (by decide +kernel)
    refine lv_aload_n hx hb dX7_fault_4 rfl (lv_at hl 0 rfl) ?_
    refine k_get (D := (dC, dI)) (ci := 7) (v := .int (i 10)) (C := RX7) (T := TX7) (N := 92) hx hb hts hinX7 hown hK hP 0 rfl rfl 10 (by decide) w_1 rfl rfl dX7_fault_5 ?_
    refine lv_goto (tgt := 24) hx hb dX7_fault_8 (by decide) ?_
    exact k_ri B hP hD hS dX7_fault_24 () [0] rfl rfl rfl (Nat.le_of_ble_eq_true rfl) (Nat.le_of_ble_eq_true rfl) trivial
set_option maxHeartbeats 8000000 in
set_option maxRecDepth 100000 in
theorem s_X7_asks_v0 (l : Launch) (dC : Nat → ClassId) (dI : Nat → Nat → Nat) (cI cJ cZ cM : ClassId) (h : Nat) (r : Nat → Nat) (i : Nat → Int32) (j : Nat → Int64) (x1 : Int32) (x2 : Int32) (x3 : Int32) (x4 : Int32) (hI : mR i) : k_Mv l yX7_asks wsX7_asks ({ frames := 1, cells := 0, slots := 0, locals := 40 }) (dC, dI) vwCl (tyy cI cJ cZ cM) [(h, .inr (7, oM r i j))] [.ref h, .int x1, .int x2, .int x3, .int x4] 0 0 (fun (u9 : Unit) => [(h, .inr (7, oM r (upd (upd (upd (upd i 62 x1) 63 x2) 64 x3) 65 x4) j))]) (fun (u9 : Unit) => True) := by
  refine fun sz => k_enter (cc := cX7_asks) (maxL := 5) (ret := none) (Qc := fun A => va_Qv (fun (u9 : Unit) => True) (fun u => k_B (dC, dI) vwCl (tyy cI cJ cZ cM) A ((fun (u9 : Unit) => [(h, .inr (7, oM r (upd (upd (upd (upd i 62 x1) 63 x2) 64 x3) 65 x4) j))]) u)) A) sz (by decide +kernel) rfl (Nat.le_of_ble_eq_true rfl) (fun p e s m args below meth c A ls H locs B hP hD hS hl => ?_)
  obtain ⟨hx, hb, hml, hown, hts, hr, hlk, hnm, hK, hA, hN, hC⟩ := id B
  have hown : s.vm.findClass RX7 = some m.cls := hown
  have hl : lv_has ls 5 [(0, .ref h), (1, .int x1), (2, .int x2), (3, .int x3), (4, .int x4)] := hl
  have w_0 : (Cond.fieldLink RX7 201 "WishSeaModel" "askedHad" "I").before args s = true := hts _ (List.mem_of_getElem? (i := 1) rfl)
  have w_1 : (Cond.fieldLink RX7 204 "WishSeaModel" "askedSea" "I").before args s = true := hts _ (List.mem_of_getElem? (i := 2) rfl)
  have w_2 : (Cond.fieldLink RX7 207 "WishSeaModel" "askedSaid" "I").before args s = true := hts _ (List.mem_of_getElem? (i := 3) rfl)
  have w_3 : (Cond.fieldLink RX7 210 "WishSeaModel" "askedDay" "I").before args s = true := hts _ (List.mem_of_getElem? (i := 4) rfl)
  have hinX7 : ∀ w ∈ u_ws RX7 TX7 92, w ∈ wsX7_asks := fun _ h => List.mem_cons_of_mem _ (List.mem_append_right _ h)
  refine lv_aload_n hx hb dX7_asks_0 rfl (lv_at hl 0 rfl) ?_
  refine lv_iload_n hx hb dX7_asks_1 rfl (lv_at hl 1 rfl) ?_
  refine k_put (D := (dC, dI)) (ci := 7) (v := .int x1) (C := RX7) (T := TX7) (N := 92) (ws' := [(h, .inr (7, oM r (upd i 62 x1) j))]) hx hb hts hinX7 tyX7 tyX7_ok nmX7 hown hK hP hD hS 0 rfl rfl 62 (by decide) w_0 rfl rfl rfl rfl (Nat.le_of_ble_eq_true rfl) rfl dX7_asks_2 (fun H locs hP hD hS => ?_)
  refine lv_aload_n hx hb dX7_asks_5 rfl (lv_at hl 0 rfl) ?_
  refine lv_iload_n hx hb dX7_asks_6 rfl (lv_at hl 2 rfl) ?_
  refine k_put (D := (dC, dI)) (ci := 7) (v := .int x2) (C := RX7) (T := TX7) (N := 92) (ws' := [(h, .inr (7, oM r (upd (upd i 62 x1) 63 x2) j))]) hx hb hts hinX7 tyX7 tyX7_ok nmX7 hown hK hP hD hS 0 rfl rfl 63 (by decide) w_1 rfl rfl rfl rfl (Nat.le_of_ble_eq_true rfl) rfl dX7_asks_7 (fun H locs hP hD hS => ?_)
  refine lv_aload_n hx hb dX7_asks_10 rfl (lv_at hl 0 rfl) ?_
  refine lv_iload_n hx hb dX7_asks_11 rfl (lv_at hl 3 rfl) ?_
  refine k_put (D := (dC, dI)) (ci := 7) (v := .int x3) (C := RX7) (T := TX7) (N := 92) (ws' := [(h, .inr (7, oM r (upd (upd (upd i 62 x1) 63 x2) 64 x3) j))]) hx hb hts hinX7 tyX7 tyX7_ok nmX7 hown hK hP hD hS 0 rfl rfl 64 (by decide) w_2 rfl rfl rfl rfl (Nat.le_of_ble_eq_true rfl) rfl dX7_asks_12 (fun H locs hP hD hS => ?_)
  refine lv_aload_n hx hb dX7_asks_15 rfl (lv_at hl 0 rfl) ?_
  refine lv_iload hx hb dX7_asks_16 (lv_at hl 4 rfl) ?_
  refine k_put (D := (dC, dI)) (ci := 7) (v := .int x4) (C := RX7) (T := TX7) (N := 92) (ws' := [(h, .inr (7, oM r (upd (upd (upd (upd i 62 x1) 63 x2) 64 x3) 65 x4) j))]) hx hb hts hinX7 tyX7 tyX7_ok nmX7 hown hK hP hD hS 0 rfl rfl 65 (by decide) w_3 rfl rfl rfl rfl (Nat.le_of_ble_eq_true rfl) rfl dX7_asks_18 (fun H locs hP hD hS => ?_)
  exact k_rv B hP hD hS dX7_asks_21 () [0] rfl rfl (Nat.le_of_ble_eq_true rfl) (Nat.le_of_ble_eq_true rfl) trivial
set_option maxHeartbeats 8000000 in
set_option maxRecDepth 100000 in
theorem s_X7_asksLayer_v0 (l : Launch) (dC : Nat → ClassId) (dI : Nat → Nat → Nat) (cI cJ cZ cM : ClassId) (h : Nat) (r : Nat → Nat) (i : Nat → Int32) (j : Nat → Int64) (x1 : Int32) (f49 : Nat → Int32) (f50 : Nat → Int32) (f51 : Nat → Int32) (f52 : Nat → Int32) (hx1 : iR x1 0 21) (hI : mR i) (hf49 : aR f49 0 1023) (hf50 : aR f50 0 999) : k_Mv l yX7_asksLayer wsX7_asksLayer ({ frames := 2, cells := 0, slots := 0, locals := 64 }) (dC, dI) vwCl (tyy cI cJ cZ cM) [(h, .inr (7, oM r i j)), ((r 49), .inl (cI, 22, .inl f49)), ((r 50), .inl (cI, 22, .inl f50)), ((r 51), .inl (cI, 22, .inl f51)), ((r 52), .inl (cI, 22, .inl f52))] [.ref h, .int x1] 0 0 (fun (u9 : Unit) => [(h, .inr (7, oM r (upd (upd (upd (upd i 62 (f49 x1.toNatClampNeg)) 63 (f50 x1.toNatClampNeg)) 64 (f51 x1.toNatClampNeg)) 65 (f52 x1.toNatClampNeg)) j)), ((r 49), .inl (cI, 22, .inl f49)), ((r 50), .inl (cI, 22, .inl f50)), ((r 51), .inl (cI, 22, .inl f51)), ((r 52), .inl (cI, 22, .inl f52))]) (fun (u9 : Unit) => True) := by
  refine fun sz => k_enter (cc := cX7_asksLayer) (maxL := 2) (ret := none) (Qc := fun A => va_Qv (fun (u9 : Unit) => True) (fun u => k_B (dC, dI) vwCl (tyy cI cJ cZ cM) A ((fun (u9 : Unit) => [(h, .inr (7, oM r (upd (upd (upd (upd i 62 (f49 x1.toNatClampNeg)) 63 (f50 x1.toNatClampNeg)) 64 (f51 x1.toNatClampNeg)) 65 (f52 x1.toNatClampNeg)) j)), ((r 49), .inl (cI, 22, .inl f49)), ((r 50), .inl (cI, 22, .inl f50)), ((r 51), .inl (cI, 22, .inl f51)), ((r 52), .inl (cI, 22, .inl f52))]) u)) A) sz (by decide +kernel) rfl (Nat.le_of_ble_eq_true rfl) (fun p e s m args below meth c A ls H locs B hP hD hS hl => ?_)
  obtain ⟨hx, hb, hml, hown, hts, hr, hlk, hnm, hK, hA, hN, hC⟩ := id B
  have hown : s.vm.findClass RX7 = some m.cls := hown
  have hl : lv_has ls 2 [(0, .ref h), (1, .int x1)] := hl
  have w_0 : (Cond.fieldLink RX7 162 "WishSeaModel" "hadOf" "[I").before args s = true := hts _ (List.mem_of_getElem? (i := 1) rfl)
  have w_1 : (Cond.fieldLink RX7 165 "WishSeaModel" "seaOf" "[I").before args s = true := hts _ (List.mem_of_getElem? (i := 2) rfl)
  have w_2 : (Cond.fieldLink RX7 168 "WishSeaModel" "saidOf" "[I").before args s = true := hts _ (List.mem_of_getElem? (i := 3) rfl)
  have w_3 : (Cond.fieldLink RX7 171 "WishSeaModel" "dayOf" "[I").before args s = true := hts _ (List.mem_of_getElem? (i := 4) rfl)
  have hinX7 : ∀ w ∈ u_ws RX7 TX7 92, w ∈ wsX7_asksLayer := fun _ h => List.mem_cons_of_mem _ (List.mem_append_right _ h)
  refine lv_aload_n hx hb dX7_asksLayer_0 rfl (lv_at hl 0 rfl) ?_
  refine lv_aload_n hx hb dX7_asksLayer_1 rfl (lv_at hl 0 rfl) ?_
  refine k_get (D := (dC, dI)) (ci := 7) (v := .ref (r 49)) (C := RX7) (T := TX7) (N := 92) hx hb hts hinX7 hown hK hP 0 rfl rfl 49 (by decide) w_0 rfl rfl dX7_asksLayer_2 ?_
  refine lv_iload_n hx hb dX7_asksLayer_5 rfl (lv_at hl 1 rfl) ?_
  refine va_iald hx hb hK hP 1 0 rfl rfl (iR_vp hx1 (by decide +kernel)) dX7_asksLayer_6 ?_
  have f_6_1 : iR (f49 x1.toNatClampNeg) 0 1023 := hf49 _
  refine lv_aload_n hx hb dX7_asksLayer_7 rfl (lv_at hl 0 rfl) ?_
  refine k_get (D := (dC, dI)) (ci := 7) (v := .ref (r 50)) (C := RX7) (T := TX7) (N := 92) hx hb hts hinX7 hown hK hP 0 rfl rfl 50 (by decide) w_1 rfl rfl dX7_asksLayer_8 ?_
  refine lv_iload_n hx hb dX7_asksLayer_11 rfl (lv_at hl 1 rfl) ?_
  refine va_iald hx hb hK hP 2 0 rfl rfl (iR_vp hx1 (by decide +kernel)) dX7_asksLayer_12 ?_
  have f_12_2 : iR (f50 x1.toNatClampNeg) 0 999 := hf50 _
  refine lv_aload_n hx hb dX7_asksLayer_13 rfl (lv_at hl 0 rfl) ?_
  refine k_get (D := (dC, dI)) (ci := 7) (v := .ref (r 51)) (C := RX7) (T := TX7) (N := 92) hx hb hts hinX7 hown hK hP 0 rfl rfl 51 (by decide) w_2 rfl rfl dX7_asksLayer_14 ?_
  refine lv_iload_n hx hb dX7_asksLayer_17 rfl (lv_at hl 1 rfl) ?_
  refine va_iald hx hb hK hP 3 0 rfl rfl (iR_vp hx1 (by decide +kernel)) dX7_asksLayer_18 ?_
  refine lv_aload_n hx hb dX7_asksLayer_19 rfl (lv_at hl 0 rfl) ?_
  refine k_get (D := (dC, dI)) (ci := 7) (v := .ref (r 52)) (C := RX7) (T := TX7) (N := 92) hx hb hts hinX7 hown hK hP 0 rfl rfl 52 (by decide) w_3 rfl rfl dX7_asksLayer_20 ?_
  refine lv_iload_n hx hb dX7_asksLayer_23 rfl (lv_at hl 1 rfl) ?_
  refine va_iald hx hb hK hP 4 0 rfl rfl (iR_vp hx1 (by decide +kernel)) dX7_asksLayer_24 ?_
  refine k_cv (wc := [(h, .inr (7, oM r i j))]) (wr := [((r 49), .inl (cI, 22, .inl f49)), ((r 50), .inl (cI, 22, .inl f50)), ((r 51), .inl (cI, 22, .inl f51)), ((r 52), .inl (cI, 22, .inl f52))]) (fun hPc hDc hFc => va_runV (As := [.int (f49 x1.toNatClampNeg), .int (f50 x1.toNatClampNeg), .int (f51 x1.toNatClampNeg), .int (f52 x1.toNatClampNeg)]) (rest := []) ⟨hx, hb, hml, hown, hts⟩ (s_X7_asks_v0 l dC dI cI cJ cZ cM h r i j (f49 x1.toNatClampNeg) (f50 x1.toNatClampNeg) (f51 x1.toNatClampNeg) (f52 x1.toNatClampNeg) hI H.size) (cwV 4 hts gX7_asksLayer_X7_asks rfl rfl rfl (by decide +kernel) ⟨(Nat.le_of_ble_eq_true rfl), (Nat.le_of_ble_eq_true rfl)⟩) (k_pV hPc hDc hK hN hC hS hFc hP (q0 := 0) (ci := 7) rfl rfl) rfl rfl hl.1 rfl (lv_room (Nat.le_of_ble_eq_true rfl)) dX7_asksLayer_25 ⟨(Nat.le_of_ble_eq_true rfl), (Nat.le_of_ble_eq_true rfl)⟩) hP hD hS hA [0] [1, 2, 3, 4] rfl rfl rfl rfl (by decide) (fun _ => rfl) 0 0 rfl rfl (fun u_25 H locs hw hP hD hS => ?_)
  have hP : va_P (dC, dI) vwCl [((r 49), .inl (cI, 22, .inl f49)), ((r 50), .inl (cI, 22, .inl f50)), ((r 51), .inl (cI, 22, .inl f51)), ((r 52), .inl (cI, 22, .inl f52)), (h, .inr (7, oM r (upd (upd (upd (upd i 62 (f49 x1.toNatClampNeg)) 63 (f50 x1.toNatClampNeg)) 64 (f51 x1.toNatClampNeg)) 65 (f52 x1.toNatClampNeg)) j))] H := hP
  have hD : va_D A [((r 49), .inl (cI, 22, .inl f49)), ((r 50), .inl (cI, 22, .inl f50)), ((r 51), .inl (cI, 22, .inl f51)), ((r 52), .inl (cI, 22, .inl f52)), (h, .inr (7, oM r (upd (upd (upd (upd i 62 (f49 x1.toNatClampNeg)) 63 (f50 x1.toNatClampNeg)) 64 (f51 x1.toNatClampNeg)) 65 (f52 x1.toNatClampNeg)) j))] := hD
  exact k_rv B hP hD hS dX7_asksLayer_28 () [4, 0, 1, 2, 3] rfl rfl (Nat.le_of_ble_eq_true rfl) (Nat.le_of_ble_eq_true rfl) trivial
set_option maxHeartbeats 8000000 in
set_option maxRecDepth 100000 in
theorem s_X7_holds_v0 (l : Launch) (dC : Nat → ClassId) (dI : Nat → Nat → Nat) (cI cJ cZ cM : ClassId) (x0 : Int32) (x1 : Int32)  : k_Mi l yX7_holds wsX7_holds ({ frames := 1, cells := 0, slots := 0, locals := 40 }) (dC, dI) vwCl (tyy cI cJ cZ cM) [] [.int x0, .int x1] 0 0 (fun (u9 : Unit) => []) (fun (r9 : Int32) (u9 : Unit) => (iR r9 0 1) ∧ (r9 = hof x0 x1)) := by
  refine fun sz => k_enter (cc := cX7_holds) (maxL := 2) (ret := some (.boolean)) (Qc := fun A => va_Qi (fun (r9 : Int32) (u9 : Unit) => (iR r9 0 1) ∧ (r9 = hof x0 x1)) (fun u => k_B (dC, dI) vwCl (tyy cI cJ cZ cM) A ((fun (u9 : Unit) => []) u)) A) sz (by decide +kernel) rfl (Nat.le_of_ble_eq_true rfl) (fun p e s m args below meth c A ls H locs B hP hD hS hl => ?_)
  obtain ⟨hx, hb, hml, hown, hts, hr, hlk, hnm, hK, hA, hN, hC⟩ := id B
  have hown : s.vm.findClass RX7 = some m.cls := hown
  have hl : lv_has ls 2 [(0, .int x0), (1, .int x1)] := hl
  refine lv_iload_n hx hb dX7_holds_0 rfl (lv_at hl 0 rfl) ?_
  refine lv_iload_n hx hb dX7_holds_1 rfl (lv_at hl 1 rfl) ?_
  refine lv_ishr hx hb dX7_holds_2 ?_
  refine lv_topi (fun y_2 ey_2 => ?_)
  refine lv_iconst (v := 1) hx hb dX7_holds_3 (by decide +kernel) ?_
  refine lv_iand hx hb dX7_holds_4 ?_
  refine lv_topi (fun y_4 ey_4 => ?_)
  have f_4_1 : iR y_4 0 1 := iR_andR ey_4 (iR_c (n := 1) (a := 1) (b := 1) (by decide +kernel) (by decide +kernel)) (by decide +kernel)
  refine lv_iconst (v := 1) hx hb dX7_holds_5 (by decide +kernel) ?_
  refine lv_icmp_ne (tgt := 13) hx hb dX7_holds_6 (by decide) (fun c_6 => ?_) (fun c_6 => ?_)
  · have c_6 : ¬ y_4 = 1 := c_6
    have f_13_2 : iR y_4 0 0 := iR_neL c_6 f_4_1 (iR_c (n := 1) (a := 1) (b := 1) (by decide +kernel) (by decide +kernel)) (by decide +kernel)
    refine lv_iconst (v := 0) hx hb dX7_holds_13 (by decide +kernel) ?_
    exact k_ri B hP hD hS dX7_holds_14 () [] rfl rfl rfl (Nat.le_of_ble_eq_true rfl) (Nat.le_of_ble_eq_true rfl) ⟨(show iR 0 0 1 from (iR_c (n := 0) (a := 0) (b := 1) (by decide +kernel) (by decide +kernel))), (show 0 = hof x0 x1 from (by unfold hof; rw [← ey_2, ← ey_4, if_neg c_6]))⟩
  · have c_6 : y_4 = 1 := c_6
    have f_9_2 : iR y_4 1 1 := iR_eqL c_6 f_4_1 (iR_c (n := 1) (a := 1) (b := 1) (by decide +kernel) (by decide +kernel)) (by decide +kernel)
    refine lv_iconst (v := 1) hx hb dX7_holds_9 (by decide +kernel) ?_
    refine lv_goto (tgt := 14) hx hb dX7_holds_10 (by decide) ?_
    exact k_ri B hP hD hS dX7_holds_14 () [] rfl rfl rfl (Nat.le_of_ble_eq_true rfl) (Nat.le_of_ble_eq_true rfl) ⟨(show iR 1 0 1 from (iR_c (n := 1) (a := 0) (b := 1) (by decide +kernel) (by decide +kernel))), (show 1 = hof x0 x1 from (by unfold hof; rw [← ey_2, ← ey_4, if_pos c_6]))⟩
set_option maxHeartbeats 8000000 in
set_option maxRecDepth 100000 in
theorem s_X7_worthOf_v0 (l : Launch) (dC : Nat → ClassId) (dI : Nat → Nat → Nat) (cI cJ cZ cM : ClassId) (h : Nat) (r : Nat → Nat) (i : Nat → Int32) (j : Nat → Int64) (x1 : Int32) (f14 : Nat → Int32) (f15 : Nat → Int32) (hI : mR i) (hf14 : aR f14 0 10) (hf15 : aR f15 0 9999) : k_Mi l yX7_worthOf wsX7_worthOf ({ frames := 2, cells := 0, slots := 0, locals := 61 }) (dC, dI) vwCl (tyy cI cJ cZ cM) [(h, .inr (7, oM r i j)), ((r 14), .inl (cI, 2, .inl f14)), ((r 15), .inl (cI, 20, .inl f15))] [.ref h, .int x1] 0 0 (fun (u9 : Unit) => [(h, .inr (7, oM r i j)), ((r 14), .inl (cI, 2, .inl f14)), ((r 15), .inl (cI, 20, .inl f15))]) (fun (r9 : Int32) (u9 : Unit) => (iR r9 0 99990) ∧ (r9 = wof f15 (i 13).toNatClampNeg x1 (f14 (i 13).toNatClampNeg).toNatClampNeg)) := by
  refine fun sz => k_enter (cc := cX7_worthOf) (maxL := 4) (ret := some (.int)) (Qc := fun A => va_Qi (fun (r9 : Int32) (u9 : Unit) => (iR r9 0 99990) ∧ (r9 = wof f15 (i 13).toNatClampNeg x1 (f14 (i 13).toNatClampNeg).toNatClampNeg)) (fun u => k_B (dC, dI) vwCl (tyy cI cJ cZ cM) A ((fun (u9 : Unit) => [(h, .inr (7, oM r i j)), ((r 14), .inl (cI, 2, .inl f14)), ((r 15), .inl (cI, 20, .inl f15))]) u)) A) sz (by decide +kernel) rfl (Nat.le_of_ble_eq_true rfl) (fun p e s m args below meth c A ls H locs B hP hD hS hl => ?_)
  obtain ⟨hx, hb, hml, hown, hts, hr, hlk, hnm, hK, hA, hN, hC⟩ := id B
  have hown : s.vm.findClass RX7 = some m.cls := hown
  have hl : lv_has ls 4 [(0, .ref h), (1, .int x1)] := hl
  have w_0 : (Cond.fieldLink RX7 54 "WishSeaModel" "things" "[I").before args s = true := hts _ (List.mem_of_getElem? (i := 1) rfl)
  have w_1 : (Cond.fieldLink RX7 51 "WishSeaModel" "bank" "I").before args s = true := hts _ (List.mem_of_getElem? (i := 2) rfl)
  have w_2 : (Cond.fieldLink RX7 57 "WishSeaModel" "thingWorth" "[I").before args s = true := hts _ (List.mem_of_getElem? (i := 3) rfl)
  have hinX7 : ∀ w ∈ u_ws RX7 TX7 92, w ∈ wsX7_worthOf := fun _ h => List.mem_cons_of_mem _ (List.mem_append_right _ h)
  refine lv_iconst (v := 0) hx hb dX7_worthOf_0 (by decide +kernel) ?_
  refine lv_istore_n (lv' := [(2, .int 0), (0, .ref h), (1, .int x1)]) hx hb dX7_worthOf_1 rfl hl (by decide) rfl (fun ls hl => ?_)
  refine lv_iconst (v := 0) hx hb dX7_worthOf_2 (by decide +kernel) ?_
  have J_4 : ∀ (n_4 : Nat) (j4_L2 : Int32) (j4_L3 : Int32) (hj4_L2 : iR j4_L2 0 99990) (hj4_L3 : iR j4_L3 0 10) (v4_0 : j4_L3 ≤ (f14 (i 13).toNatClampNeg)) (p4_0 : j4_L2 = wof f15 (i 13).toNatClampNeg x1 j4_L3.toNatClampNeg) (p4_1 : 0 ≤ j4_L2.toInt ∧ j4_L2.toInt ≤ 9999 * j4_L3.toInt) (hm_4 : (10 - j4_L3.toInt).toNat < n_4) (H : Heap) (locs : List Loc) (ls : Array Slot), va_P (dC, dI) vwCl [(h, .inr (7, oM r i j)), ((r 14), .inl (cI, 2, .inl f14)), ((r 15), .inl (cI, 20, .inl f15))] H → va_D A [(h, .inr (7, oM r i j)), ((r 14), .inl (cI, 2, .inl f14)), ((r 15), .inl (cI, 20, .inl f15))] → va_S A s.heap H locs → lv_has ls 4 [(0, .ref h), (1, .int x1), (2, .int j4_L2), (3, .int j4_L3)] → W p l e ({ frames := 2, cells := 0, slots := 0, locals := 61 }) s m args below meth c H locs 0 0 (MQ below (va_Qi (fun (r9 : Int32) (u9 : Unit) => (iR r9 0 99990) ∧ (r9 = wof f15 (i 13).toNatClampNeg x1 (f14 (i 13).toNatClampNeg).toNatClampNeg)) (fun u => k_B (dC, dI) vwCl (tyy cI cJ cZ cM) A ((fun (u9 : Unit) => [(h, .inr (7, oM r i j)), ((r 14), .inl (cI, 2, .inl f14)), ((r 15), .inl (cI, 20, .inl f15))]) u)) A) args s 0 0 A) (F0 m 4 ls []) := by
    intro n_4
    induction n_4 with
    | zero => intro j4_L2 j4_L3 hj4_L2 hj4_L3 v4_0 p4_0 p4_1 hm_4; exact absurd hm_4 (Nat.not_lt_zero _)
    | succ n_4 ih_4 =>
      intro j4_L2 j4_L3 hj4_L2 hj4_L3 v4_0 p4_0 p4_1 hm_4 H locs ls hP hD hS hl
      refine lv_iload_n hx hb dX7_worthOf_4 rfl (lv_at hl 3 rfl) ?_
      refine lv_aload_n hx hb dX7_worthOf_5 rfl (lv_at hl 0 rfl) ?_
      refine k_get (D := (dC, dI)) (ci := 7) (v := .ref (r 14)) (C := RX7) (T := TX7) (N := 92) hx hb hts hinX7 hown hK hP 0 rfl rfl 14 (by decide) w_0 rfl rfl dX7_worthOf_6 ?_
      refine lv_aload_n hx hb dX7_worthOf_9 rfl (lv_at hl 0 rfl) ?_
      have f_10_1 : iR (i 13) 0 1 := hI 13
      refine k_get (D := (dC, dI)) (ci := 7) (v := .int (i 13)) (C := RX7) (T := TX7) (N := 92) hx hb hts hinX7 hown hK hP 0 rfl rfl 13 (by decide) w_1 rfl rfl dX7_worthOf_10 ?_
      refine va_iald hx hb hK hP 1 0 rfl rfl (iR_vp f_10_1 (by decide +kernel)) dX7_worthOf_13 ?_
      have f_13_2 : iR (f14 (i 13).toNatClampNeg) 0 10 := hf14 _
      refine lv_icmp_ge (tgt := 52) hx hb dX7_worthOf_14 (by decide) (fun c_14 => ?_) (fun c_14 => ?_)
      · have c_14 : (f14 (i 13).toNatClampNeg) ≤ j4_L3 := c_14
        refine lv_iload_n hx hb dX7_worthOf_52 rfl (lv_at hl 2 rfl) ?_
        exact k_ri B hP hD hS dX7_worthOf_53 () [0, 1, 2] rfl rfl rfl (Nat.le_of_ble_eq_true rfl) (Nat.le_of_ble_eq_true rfl) ⟨(show iR j4_L2 0 99990 from hj4_L2), (show j4_L2 = wof f15 (i 13).toNatClampNeg x1 (f14 (i 13).toNatClampNeg).toNatClampNeg from (by rw [← i_anti v4_0 c_14]; exact p4_0))⟩
      · have c_14 : j4_L3 < (f14 (i 13).toNatClampNeg) := i_nle c_14
        have f_17_3 : iR j4_L3 0 9 := iR_ltL c_14 hj4_L3 f_13_2 (by decide +kernel)
        have f_17_4 : iR (f14 (i 13).toNatClampNeg) 1 10 := iR_ltR c_14 hj4_L3 f_13_2 (by decide +kernel)
        refine lv_iload_n hx hb dX7_worthOf_17 rfl (lv_at hl 2 rfl) ?_
        refine lv_iload_n hx hb dX7_worthOf_18 rfl (lv_at hl 1 rfl) ?_
        refine lv_iload_n hx hb dX7_worthOf_19 rfl (lv_at hl 3 rfl) ?_
        refine k_ci (wc := []) (wr := [(h, .inr (7, oM r i j)), ((r 14), .inl (cI, 2, .inl f14)), ((r 15), .inl (cI, 20, .inl f15))]) (fun hPc hDc hFc => va_runS (As := [.int x1, .int j4_L3]) (rest := [.int j4_L2]) ⟨hx, hb, hml, hown, hts⟩ (s_X7_holds_v0 l dC dI cI cJ cZ cM x1 j4_L3 H.size) (va_cwS 2 hts gX7_worthOf_X7_holds rfl rfl rfl (by decide +kernel) ⟨(Nat.le_of_ble_eq_true rfl), (Nat.le_of_ble_eq_true rfl)⟩) (k_pS hPc hDc hK hN hC hS hFc) rfl rfl hl.1 rfl (lv_room (Nat.le_of_ble_eq_true rfl)) dX7_worthOf_20 ⟨(Nat.le_of_ble_eq_true rfl), (Nat.le_of_ble_eq_true rfl)⟩) hP hD hS hA [] [0, 1, 2] rfl rfl rfl rfl (by decide) (fun _ => rfl) 0 0 rfl rfl (fun r_20 u_20 H locs hw hP hD hS => ?_)
        obtain ⟨g_20_0, g_20_1⟩ := hw
        have hP : va_P (dC, dI) vwCl [(h, .inr (7, oM r i j)), ((r 14), .inl (cI, 2, .inl f14)), ((r 15), .inl (cI, 20, .inl f15))] H := hP
        have hD : va_D A [(h, .inr (7, oM r i j)), ((r 14), .inl (cI, 2, .inl f14)), ((r 15), .inl (cI, 20, .inl f15))] := hD
        have g_20_1 : r_20 = hof x1 j4_L3 := g_20_1
        refine lv_if_eq (tgt := 43) hx hb dX7_worthOf_23 (by decide) (fun c_23 => ?_) (fun c_23 => ?_)
        · have c_23 : r_20 = 0 := c_23
          have f_43_5 : iR r_20 0 0 := iR_eqL c_23 g_20_0 (iR_c (n := 0) (a := 0) (b := 0) (by decide +kernel) (by decide +kernel)) (by decide +kernel)
          refine lv_iconst (v := 0) hx hb dX7_worthOf_43 (by decide +kernel) ?_
          refine lv_iadd hx hb dX7_worthOf_44 ?_
          refine lv_topi (fun y_44p43 ey_44p43 => ?_)
          have xy_44p43 : y_44p43.toInt = j4_L2.toInt + 0 := i_add ey_44p43 hj4_L2 (iR_c (n := 0) (a := 0) (b := 0) (by decide +kernel) (by decide +kernel)) (by decide +kernel)
          have f_44p43_6 : iR y_44p43 0 99990 := iR_add ey_44p43 hj4_L2 (iR_c (n := 0) (a := 0) (b := 0) (by decide +kernel) (by decide +kernel)) (by decide +kernel)
          refine lv_istore_n (lv' := [(2, .int y_44p43), (0, .ref h), (1, .int x1), (3, .int j4_L3)]) hx hb dX7_worthOf_45 rfl hl (by decide) rfl (fun ls hl => ?_)
          obtain ⟨y_46p43, ey_46p43⟩ : ∃ y : Int32, y = j4_L3 + 1 := ⟨_, rfl⟩
          refine lv_iinc (v := y_46p43) (lv' := [(3, .int y_46p43), (2, .int y_44p43), (0, .ref h), (1, .int x1)]) hx hb dX7_worthOf_46 hl (k := 3) rfl ey_46p43.symm (by decide) rfl (fun ls hl => ?_)
          have f_46p43_7 : iR y_46p43 1 10 := iR_add ey_46p43 f_17_3 (iR_c (n := 1) (a := 1) (b := 1) (by decide +kernel) (by decide +kernel)) (by decide +kernel)
          have xy_46p43 : y_46p43.toInt = j4_L3.toInt + 1 := i_add ey_46p43 f_17_3 (iR_c (n := 1) (a := 1) (b := 1) (by decide +kernel) (by decide +kernel)) (by decide +kernel)
          refine lv_goto (tgt := 4) hx hb dX7_worthOf_49 (by decide) ?_
          exact ih_4 y_44p43 y_46p43 f_44p43_6 (iR_w f_46p43_7 (by decide +kernel)) (i_incle ey_46p43 c_14) (show y_44p43 = wof f15 (i 13).toNatClampNeg x1 y_46p43.toNatClampNeg from (wof_step f_17_3 (by decide +kernel) ey_46p43 p4_0 g_20_1 (Or.inl ⟨c_23, ey_44p43⟩))) (show 0 ≤ y_44p43.toInt ∧ y_44p43.toInt ≤ 9999 * y_46p43.toInt from (by have z := (show 0 ≤ y_44p43.toInt ∧ y_44p43.toInt ≤ 9999 * y_46p43.toInt ∧ y_44p43.toInt ≤ 99990 from by have p0 := p4_1; have z1 := i_add ey_44p43 hj4_L2 (iR_c (x := 0) (n := 0) (a := 0) (b := 0) (by decide +kernel) (by decide +kernel)) (by decide +kernel); have z2 := i_add ey_46p43 f_17_3 (iR_c (n := 1) (a := 1) (b := 1) (by decide +kernel) (by decide +kernel)) (by decide +kernel); have z3 : (1 : Int32).toInt = 1 := (by decide); have z4 : (0 : Int32).toInt = 0 := (by decide); have z5 := (iR_c (x := 0) (n := 0) (a := 0) (b := 0) (by decide +kernel) (by decide +kernel)); have z6 := f_17_3; unfold iR at z5 z6; omega); omega)) (m_up (B := 10) hm_4 ey_46p43 f_17_3 (by decide +kernel)) H locs ls hP hD hS (lv_sub hl [2, 3, 1, 0] rfl)
        · have c_23 : ¬ r_20 = 0 := c_23
          have f_26_5 : iR r_20 1 1 := iR_neL c_23 g_20_0 (iR_c (n := 0) (a := 0) (b := 0) (by decide +kernel) (by decide +kernel)) (by decide +kernel)
          refine lv_aload_n hx hb dX7_worthOf_26 rfl (lv_at hl 0 rfl) ?_
          refine k_get (D := (dC, dI)) (ci := 7) (v := .ref (r 15)) (C := RX7) (T := TX7) (N := 92) hx hb hts hinX7 hown hK hP 0 rfl rfl 15 (by decide) w_2 rfl rfl dX7_worthOf_27 ?_
          refine lv_bipush (v := 10) hx hb dX7_worthOf_30 (by decide +kernel) ?_
          refine lv_aload_n hx hb dX7_worthOf_32 rfl (lv_at hl 0 rfl) ?_
          refine k_get (D := (dC, dI)) (ci := 7) (v := .int (i 13)) (C := RX7) (T := TX7) (N := 92) hx hb hts hinX7 hown hK hP 0 rfl rfl 13 (by decide) w_1 rfl rfl dX7_worthOf_33 ?_
          refine lv_imul hx hb dX7_worthOf_36 ?_
          refine lv_topi (fun y_36 ey_36 => ?_)
          have xy_36 : y_36.toInt = 10 * (i 13).toInt := i_mul ey_36 (iR_c (n := 10) (a := 10) (b := 10) (by decide +kernel) (by decide +kernel)) f_10_1 (by decide +kernel)
          have f_36_6 : iR y_36 0 10 := iR_mul ey_36 (iR_c (n := 10) (a := 10) (b := 10) (by decide +kernel) (by decide +kernel)) f_10_1 (by decide +kernel)
          refine lv_iload_n hx hb dX7_worthOf_37 rfl (lv_at hl 3 rfl) ?_
          refine lv_iadd hx hb dX7_worthOf_38 ?_
          refine lv_topi (fun y_38 ey_38 => ?_)
          have xy_38 : y_38.toInt = y_36.toInt + j4_L3.toInt := i_add ey_38 f_36_6 f_17_3 (by decide +kernel)
          have f_38_7 : iR y_38 0 19 := iR_add ey_38 f_36_6 f_17_3 (by decide +kernel)
          refine va_iald hx hb hK hP 2 0 rfl rfl (iR_vp f_38_7 (by decide +kernel)) dX7_worthOf_39 ?_
          have f_39_8 : iR (f15 y_38.toNatClampNeg) 0 9999 := hf15 _
          refine lv_goto (tgt := 44) hx hb dX7_worthOf_40 (by decide) ?_
          refine lv_iadd hx hb dX7_worthOf_44 ?_
          refine lv_topi (fun y_44p40 ey_44p40 => ?_)
          have xy_44p40 : y_44p40.toInt = j4_L2.toInt + (f15 y_38.toNatClampNeg).toInt := i_add ey_44p40 hj4_L2 f_39_8 (by decide +kernel)
          have f_44p40_9 : iR y_44p40 0 109989 := iR_add ey_44p40 hj4_L2 f_39_8 (by decide +kernel)
          refine lv_istore_n (lv' := [(2, .int y_44p40), (0, .ref h), (1, .int x1), (3, .int j4_L3)]) hx hb dX7_worthOf_45 rfl hl (by decide) rfl (fun ls hl => ?_)
          obtain ⟨y_46p40, ey_46p40⟩ : ∃ y : Int32, y = j4_L3 + 1 := ⟨_, rfl⟩
          refine lv_iinc (v := y_46p40) (lv' := [(3, .int y_46p40), (2, .int y_44p40), (0, .ref h), (1, .int x1)]) hx hb dX7_worthOf_46 hl (k := 3) rfl ey_46p40.symm (by decide) rfl (fun ls hl => ?_)
          have f_46p40_10 : iR y_46p40 1 10 := iR_add ey_46p40 f_17_3 (iR_c (n := 1) (a := 1) (b := 1) (by decide +kernel) (by decide +kernel)) (by decide +kernel)
          have xy_46p40 : y_46p40.toInt = j4_L3.toInt + 1 := i_add ey_46p40 f_17_3 (iR_c (n := 1) (a := 1) (b := 1) (by decide +kernel) (by decide +kernel)) (by decide +kernel)
          refine lv_goto (tgt := 4) hx hb dX7_worthOf_49 (by decide) ?_
          exact ih_4 y_44p40 y_46p40 (by have z := (show 0 ≤ y_44p40.toInt ∧ y_44p40.toInt ≤ 9999 * y_46p40.toInt ∧ y_44p40.toInt ≤ 99990 from by have p0 := p4_1; have z1 := i_add ey_44p40 hj4_L2 f_39_8 (by decide +kernel); have z2 := i_add ey_46p40 f_17_3 (iR_c (n := 1) (a := 1) (b := 1) (by decide +kernel) (by decide +kernel)) (by decide +kernel); have z3 : (1 : Int32).toInt = 1 := (by decide); have z4 : (0 : Int32).toInt = 0 := (by decide); have z5 := f_39_8; have z6 := f_17_3; unfold iR at z5 z6; omega); show (0:Int) ≤ y_44p40.toInt ∧ y_44p40.toInt ≤ 99990; omega) (iR_w f_46p40_10 (by decide +kernel)) (i_incle ey_46p40 c_14) (show y_44p40 = wof f15 (i 13).toNatClampNeg x1 y_46p40.toNatClampNeg from (by have ei : y_38.toNatClampNeg = 10 * (i 13).toNatClampNeg + j4_L3.toNatClampNeg := (by have c0 := iR_cn f_38_7 (by decide +kernel); have c1 := iR_cn f_10_1 (by decide +kernel); have c2 := iR_cn f_17_3 (by decide +kernel); omega); exact wof_step f_17_3 (by decide +kernel) ey_46p40 p4_0 g_20_1 (Or.inr ⟨c_23, by rw [← ei]; exact ey_44p40⟩))) (show 0 ≤ y_44p40.toInt ∧ y_44p40.toInt ≤ 9999 * y_46p40.toInt from (by have z := (show 0 ≤ y_44p40.toInt ∧ y_44p40.toInt ≤ 9999 * y_46p40.toInt ∧ y_44p40.toInt ≤ 99990 from by have p0 := p4_1; have z1 := i_add ey_44p40 hj4_L2 f_39_8 (by decide +kernel); have z2 := i_add ey_46p40 f_17_3 (iR_c (n := 1) (a := 1) (b := 1) (by decide +kernel) (by decide +kernel)) (by decide +kernel); have z3 : (1 : Int32).toInt = 1 := (by decide); have z4 : (0 : Int32).toInt = 0 := (by decide); have z5 := f_39_8; have z6 := f_17_3; unfold iR at z5 z6; omega); omega)) (m_up (B := 10) hm_4 ey_46p40 f_17_3 (by decide +kernel)) H locs ls hP hD hS (lv_sub hl [2, 3, 1, 0] rfl)
  refine lv_istore_n (lv' := [(3, .int 0), (2, .int 0), (0, .ref h), (1, .int x1)]) hx hb dX7_worthOf_3 rfl hl (by decide) rfl (fun ls hl => ?_)
  exact J_4 _ 0 0 (iR_c (n := 0) (a := 0) (b := 99990) (by decide +kernel) (by decide +kernel)) (iR_c (n := 0) (a := 0) (b := 10) (by decide +kernel) (by decide +kernel)) (i_lef (iR_c (n := 0) (a := 0) (b := 0) (by decide +kernel) (by decide +kernel)) (show iR (f14 (i 13).toNatClampNeg) 0 10 from hf14 _) (by decide +kernel)) (show (0 : Int32) = wof f15 (i 13).toNatClampNeg x1 (0 : Int32).toNatClampNeg from (by rw [show (0 : Int32).toNatClampNeg = 0 by decide]; rfl)) (show 0 ≤ (0 : Int32).toInt ∧ (0 : Int32).toInt ≤ 9999 * (0 : Int32).toInt from (by decide)) (Nat.lt_succ_self _) H locs ls hP hD hS (lv_sub hl [2, 3, 1, 0] rfl)
set_option maxHeartbeats 8000000 in
set_option maxRecDepth 100000 in
theorem s_X7_held_v0 (l : Launch) (dC : Nat → ClassId) (dI : Nat → Nat → Nat) (cI cJ cZ cM : ClassId) (x0 : Int64)  : k_Ml l yX7_held wsX7_held ({ frames := 1, cells := 0, slots := 0, locals := 40 }) (dC, dI) vwCl (tyy cI cJ cZ cM) [] [.long x0] 0 0 (fun (u9 : Unit) => []) (fun (r9 : Int64) (u9 : Unit) => (r9 = hld x0)) := by
  refine fun sz => k_enter (cc := cX7_held) (maxL := 2) (ret := some (.long)) (Qc := fun A => va_Ql (fun (r9 : Int64) (u9 : Unit) => (r9 = hld x0)) (fun u => k_B (dC, dI) vwCl (tyy cI cJ cZ cM) A ((fun (u9 : Unit) => []) u)) A) sz (by decide +kernel) rfl (Nat.le_of_ble_eq_true rfl) (fun p e s m args below meth c A ls H locs B hP hD hS hl => ?_)
  obtain ⟨hx, hb, hml, hown, hts, hr, hlk, hnm, hK, hA, hN, hC⟩ := id B
  have hown : s.vm.findClass RX7 = some m.cls := hown
  have hl : lv_has ls 2 [(0, .long x0)] := hl
  have w_0 : (Cond.constantLong RX7 502 (1000000)).before args s = true := hts _ (List.mem_of_getElem? (i := 1) rfl)
  have w_1 : (Cond.constantLong RX7 504 (-1000000)).before args s = true := hts _ (List.mem_of_getElem? (i := 2) rfl)
  refine lv_lload_n hx hb dX7_held_0 rfl (lv_at hl 0 rfl) ?_
  refine lv_ldc2 (v := 1000000) hx hb hown w_0 dX7_held_1 ?_
  refine W.lcmp hx hb dX7_held_4 ?_
  refine lv_topi (fun y_4 ey_4 => ?_)
  refine lv_if_le (tgt := 14) hx hb dX7_held_5 (by decide) (fun c_5 => ?_) (fun c_5 => ?_)
  · have c_5 : y_4 ≤ 0 := c_5
    have f_14_1 : iR y_4 (-2147483648) 0 := iR_leL c_5 (iR_top _) (iR_c (n := 0) (a := 0) (b := 0) (by decide +kernel) (by decide +kernel)) (by decide +kernel)
    have lc_5 : x0 ≤ 1000000 := l_cmple ey_4 c_5
    refine lv_lload_n hx hb dX7_held_14 rfl (lv_at hl 0 rfl) ?_
    refine lv_ldc2 (v := (-1000000)) hx hb hown w_1 dX7_held_15 ?_
    refine W.lcmp hx hb dX7_held_18 ?_
    refine lv_topi (fun y_18 ey_18 => ?_)
    refine lv_if_ge (tgt := 28) hx hb dX7_held_19 (by decide) (fun c_19 => ?_) (fun c_19 => ?_)
    · have c_19 : 0 ≤ y_18 := c_19
      have f_28_2 : iR y_18 0 2147483647 := iR_leR c_19 (iR_c (n := 0) (a := 0) (b := 0) (by decide +kernel) (by decide +kernel)) (iR_top _) (by decide +kernel)
      have lc_19 : (-1000000) ≤ x0 := l_cmpge ey_18 c_19
      refine lv_lload_n hx hb dX7_held_28 rfl (lv_at hl 0 rfl) ?_
      exact k_rl B hP hD hS dX7_held_29 () [] rfl rfl (Nat.le_of_ble_eq_true rfl) (Nat.le_of_ble_eq_true rfl) (show x0 = hld x0 from (hld_md lc_5 lc_19))
    · have c_19 : y_18 < 0 := i_nle c_19
      have f_22_2 : iR y_18 (-2147483648) (-1) := iR_ltL c_19 (iR_top _) (iR_c (n := 0) (a := 0) (b := 0) (by decide +kernel) (by decide +kernel)) (by decide +kernel)
      have lc_19 : x0 < (-1000000) := l_cmplt ey_18 c_19
      refine lv_ldc2 (v := (-1000000)) hx hb hown w_1 dX7_held_22 ?_
      refine lv_goto (tgt := 29) hx hb dX7_held_25 (by decide) ?_
      exact k_rl B hP hD hS dX7_held_29 () [] rfl rfl (Nat.le_of_ble_eq_true rfl) (Nat.le_of_ble_eq_true rfl) (show (-1000000) = hld x0 from (hld_lo lc_5 lc_19))
  · have c_5 : 0 < y_4 := i_nle c_5
    have f_8_1 : iR y_4 1 2147483647 := iR_ltR c_5 (iR_c (n := 0) (a := 0) (b := 0) (by decide +kernel) (by decide +kernel)) (iR_top _) (by decide +kernel)
    have lc_5 : 1000000 < x0 := l_cmpgt ey_4 c_5
    refine lv_ldc2 (v := 1000000) hx hb hown w_0 dX7_held_8 ?_
    refine lv_goto (tgt := 29) hx hb dX7_held_11 (by decide) ?_
    exact k_rl B hP hD hS dX7_held_29 () [] rfl rfl (Nat.le_of_ble_eq_true rfl) (Nat.le_of_ble_eq_true rfl) (show 1000000 = hld x0 from (hld_hi lc_5))
set_option maxHeartbeats 8000000 in
set_option maxRecDepth 100000 in
theorem s_X7_floor_v0 (l : Launch) (dC : Nat → ClassId) (dI : Nat → Nat → Nat) (cI cJ cZ cM : ClassId) (x0 : Int64) (x1 : Int64)  : k_Ml l yX7_floor wsX7_floor ({ frames := 1, cells := 0, slots := 0, locals := 40 }) (dC, dI) vwCl (tyy cI cJ cZ cM) [] [.long x0, .long x1] 0 0 (fun (u9 : Unit) => []) (fun (r9 : Int64) (u9 : Unit) => (r9 = flr x0 x1)) := by
  refine fun sz => k_enter (cc := cX7_floor) (maxL := 6) (ret := some (.long)) (Qc := fun A => va_Ql (fun (r9 : Int64) (u9 : Unit) => (r9 = flr x0 x1)) (fun u => k_B (dC, dI) vwCl (tyy cI cJ cZ cM) A ((fun (u9 : Unit) => []) u)) A) sz (by decide +kernel) rfl (Nat.le_of_ble_eq_true rfl) (fun p e s m args below meth c A ls H locs B hP hD hS hl => ?_)
  obtain ⟨hx, hb, hml, hown, hts, hr, hlk, hnm, hK, hA, hN, hC⟩ := id B
  have hown : s.vm.findClass RX7 = some m.cls := hown
  have hl : lv_has ls 6 [(0, .long x0), (2, .long x1)] := hl
  refine lv_lload_n hx hb dX7_floor_0 rfl (lv_at hl 1 rfl) ?_
  refine lv_lconst (v := 0) hx hb dX7_floor_1 (by decide +kernel) ?_
  refine W.lcmp hx hb dX7_floor_2 ?_
  refine lv_topi (fun y_2 ey_2 => ?_)
  refine lv_if_ne (tgt := 8) hx hb dX7_floor_3 (by decide) (fun c_3 => ?_) (fun c_3 => ?_)
  · have c_3 : ¬ y_2 = 0 := c_3
    have lc_3 : ¬ x1 = 0 := l_cmpne ey_2 c_3
    refine lv_lload_n hx hb dX7_floor_8 rfl (lv_at hl 0 rfl) ?_
    refine lv_lload_n hx hb dX7_floor_9 rfl (lv_at hl 1 rfl) ?_
    refine lv_ldiv hx hb dX7_floor_10 lc_3 ?_
    refine lv_topl (fun y_10 ey_10 => ?_)
    refine lv_lstore (lv' := [(4, .long y_10), (0, .long x0), (2, .long x1)]) hx hb dX7_floor_11 hl (by decide) rfl (fun ls hl => ?_)
    refine lv_lload_n hx hb dX7_floor_13 rfl (lv_at hl 1 rfl) ?_
    refine lv_lload_n hx hb dX7_floor_14 rfl (lv_at hl 2 rfl) ?_
    refine lv_lrem hx hb dX7_floor_15 lc_3 ?_
    refine lv_topl (fun y_15 ey_15 => ?_)
    refine lv_lconst (v := 0) hx hb dX7_floor_16 (by decide +kernel) ?_
    refine W.lcmp hx hb dX7_floor_17 ?_
    refine lv_topi (fun y_17 ey_17 => ?_)
    refine lv_if_eq (tgt := 53) hx hb dX7_floor_18 (by decide) (fun c_18 => ?_) (fun c_18 => ?_)
    · have c_18 : y_17 = 0 := c_18
      have f_53_1 : iR y_17 0 0 := iR_eqL c_18 (iR_top _) (iR_c (n := 0) (a := 0) (b := 0) (by decide +kernel) (by decide +kernel)) (by decide +kernel)
      have lc_18 : y_15 = 0 := l_cmpe ey_17 c_18
      refine lv_lload hx hb dX7_floor_53 (lv_at hl 0 rfl) ?_
      exact k_rl B hP hD hS dX7_floor_55 () [] rfl rfl (Nat.le_of_ble_eq_true rfl) (Nat.le_of_ble_eq_true rfl) (show y_10 = flr x0 x1 from (flr_q lc_3 ey_10 ey_15 (Or.inl lc_18)))
    · have c_18 : ¬ y_17 = 0 := c_18
      have lc_18 : ¬ y_15 = 0 := l_cmpne ey_17 c_18
      refine lv_lload_n hx hb dX7_floor_21 rfl (lv_at hl 1 rfl) ?_
      refine lv_lconst (v := 0) hx hb dX7_floor_22 (by decide +kernel) ?_
      refine W.lcmp hx hb dX7_floor_23 ?_
      refine lv_topi (fun y_23 ey_23 => ?_)
      refine lv_if_ge (tgt := 31) hx hb dX7_floor_24 (by decide) (fun c_24 => ?_) (fun c_24 => ?_)
      · have c_24 : 0 ≤ y_23 := c_24
        have f_31_1 : iR y_23 0 2147483647 := iR_leR c_24 (iR_c (n := 0) (a := 0) (b := 0) (by decide +kernel) (by decide +kernel)) (iR_top _) (by decide +kernel)
        have lc_24 : 0 ≤ x0 := l_cmpge ey_23 c_24
        refine lv_iconst (v := 0) hx hb dX7_floor_31 (by decide +kernel) ?_
        refine lv_lload_n hx hb dX7_floor_32 rfl (lv_at hl 2 rfl) ?_
        refine lv_lconst (v := 0) hx hb dX7_floor_33 (by decide +kernel) ?_
        refine W.lcmp hx hb dX7_floor_34 ?_
        refine lv_topi (fun y_34p31 ey_34p31 => ?_)
        refine lv_if_ge (tgt := 42) hx hb dX7_floor_35 (by decide) (fun c_35p31 => ?_) (fun c_35p31 => ?_)
        · have c_35p31 : 0 ≤ y_34p31 := c_35p31
          have f_42p31_2 : iR y_34p31 0 2147483647 := iR_leR c_35p31 (iR_c (n := 0) (a := 0) (b := 0) (by decide +kernel) (by decide +kernel)) (iR_top _) (by decide +kernel)
          have lc_35p31 : 0 ≤ x1 := l_cmpge ey_34p31 c_35p31
          refine lv_iconst (v := 0) hx hb dX7_floor_42 (by decide +kernel) ?_
          refine lv_icmp_eq (tgt := 53) hx hb dX7_floor_43 (by decide) (fun _ => ?_) (fun q9 => absurd q9 (by decide +kernel))
          refine lv_lload hx hb dX7_floor_53 (lv_at hl 0 rfl) ?_
          exact k_rl B hP hD hS dX7_floor_55 () [] rfl rfl (Nat.le_of_ble_eq_true rfl) (Nat.le_of_ble_eq_true rfl) (show y_10 = flr x0 x1 from (flr_q lc_3 ey_10 ey_15 (Or.inr (Or.inr ⟨lc_24, lc_35p31⟩))))
        · have c_35p31 : y_34p31 < 0 := i_nle c_35p31
          have f_38p31_2 : iR y_34p31 (-2147483648) (-1) := iR_ltL c_35p31 (iR_top _) (iR_c (n := 0) (a := 0) (b := 0) (by decide +kernel) (by decide +kernel)) (by decide +kernel)
          have lc_35p31 : x1 < 0 := l_cmplt ey_34p31 c_35p31
          refine lv_iconst (v := 1) hx hb dX7_floor_38 (by decide +kernel) ?_
          refine lv_goto (tgt := 43) hx hb dX7_floor_39 (by decide) ?_
          refine lv_icmp_eq (tgt := 53) hx hb dX7_floor_43 (by decide) (fun q9 => absurd q9 (by decide +kernel)) (fun _ => ?_)
          refine lv_lload hx hb dX7_floor_46 (lv_at hl 0 rfl) ?_
          refine lv_lconst (v := 1) hx hb dX7_floor_48 (by decide +kernel) ?_
          refine lv_lsub hx hb dX7_floor_49 ?_
          refine lv_topl (fun y_49p31p39 ey_49p31p39 => ?_)
          refine lv_goto (tgt := 55) hx hb dX7_floor_50 (by decide) ?_
          exact k_rl B hP hD hS dX7_floor_55 () [] rfl rfl (Nat.le_of_ble_eq_true rfl) (Nat.le_of_ble_eq_true rfl) (show y_49p31p39 = flr x0 x1 from (flr_1 lc_3 ey_10 ey_15 ey_49p31p39 lc_18 (Or.inr ⟨lc_24, lc_35p31⟩)))
      · have c_24 : y_23 < 0 := i_nle c_24
        have f_27_1 : iR y_23 (-2147483648) (-1) := iR_ltL c_24 (iR_top _) (iR_c (n := 0) (a := 0) (b := 0) (by decide +kernel) (by decide +kernel)) (by decide +kernel)
        have lc_24 : x0 < 0 := l_cmplt ey_23 c_24
        refine lv_iconst (v := 1) hx hb dX7_floor_27 (by decide +kernel) ?_
        refine lv_goto (tgt := 32) hx hb dX7_floor_28 (by decide) ?_
        refine lv_lload_n hx hb dX7_floor_32 rfl (lv_at hl 2 rfl) ?_
        refine lv_lconst (v := 0) hx hb dX7_floor_33 (by decide +kernel) ?_
        refine W.lcmp hx hb dX7_floor_34 ?_
        refine lv_topi (fun y_34p28 ey_34p28 => ?_)
        refine lv_if_ge (tgt := 42) hx hb dX7_floor_35 (by decide) (fun c_35p28 => ?_) (fun c_35p28 => ?_)
        · have c_35p28 : 0 ≤ y_34p28 := c_35p28
          have f_42p28_2 : iR y_34p28 0 2147483647 := iR_leR c_35p28 (iR_c (n := 0) (a := 0) (b := 0) (by decide +kernel) (by decide +kernel)) (iR_top _) (by decide +kernel)
          have lc_35p28 : 0 ≤ x1 := l_cmpge ey_34p28 c_35p28
          refine lv_iconst (v := 0) hx hb dX7_floor_42 (by decide +kernel) ?_
          refine lv_icmp_eq (tgt := 53) hx hb dX7_floor_43 (by decide) (fun q9 => absurd q9 (by decide +kernel)) (fun _ => ?_)
          refine lv_lload hx hb dX7_floor_46 (lv_at hl 0 rfl) ?_
          refine lv_lconst (v := 1) hx hb dX7_floor_48 (by decide +kernel) ?_
          refine lv_lsub hx hb dX7_floor_49 ?_
          refine lv_topl (fun y_49p28p42 ey_49p28p42 => ?_)
          refine lv_goto (tgt := 55) hx hb dX7_floor_50 (by decide) ?_
          exact k_rl B hP hD hS dX7_floor_55 () [] rfl rfl (Nat.le_of_ble_eq_true rfl) (Nat.le_of_ble_eq_true rfl) (show y_49p28p42 = flr x0 x1 from (flr_1 lc_3 ey_10 ey_15 ey_49p28p42 lc_18 (Or.inl ⟨lc_24, lc_35p28⟩)))
        · have c_35p28 : y_34p28 < 0 := i_nle c_35p28
          have f_38p28_2 : iR y_34p28 (-2147483648) (-1) := iR_ltL c_35p28 (iR_top _) (iR_c (n := 0) (a := 0) (b := 0) (by decide +kernel) (by decide +kernel)) (by decide +kernel)
          have lc_35p28 : x1 < 0 := l_cmplt ey_34p28 c_35p28
          refine lv_iconst (v := 1) hx hb dX7_floor_38 (by decide +kernel) ?_
          refine lv_goto (tgt := 43) hx hb dX7_floor_39 (by decide) ?_
          refine lv_icmp_eq (tgt := 53) hx hb dX7_floor_43 (by decide) (fun _ => ?_) (fun q9 => absurd q9 (by decide +kernel))
          refine lv_lload hx hb dX7_floor_53 (lv_at hl 0 rfl) ?_
          exact k_rl B hP hD hS dX7_floor_55 () [] rfl rfl (Nat.le_of_ble_eq_true rfl) (Nat.le_of_ble_eq_true rfl) (show y_10 = flr x0 x1 from (flr_q lc_3 ey_10 ey_15 (Or.inr (Or.inl ⟨lc_24, lc_35p28⟩))))
  · have c_3 : y_2 = 0 := c_3
    have f_6_1 : iR y_2 0 0 := iR_eqL c_3 (iR_top _) (iR_c (n := 0) (a := 0) (b := 0) (by decide +kernel) (by decide +kernel)) (by decide +kernel)
    have lc_3 : x1 = 0 := l_cmpe ey_2 c_3
    refine lv_lconst (v := 0) hx hb dX7_floor_6 (by decide +kernel) ?_
    exact k_rl B hP hD hS dX7_floor_7 () [] rfl rfl (Nat.le_of_ble_eq_true rfl) (Nat.le_of_ble_eq_true rfl) (show 0 = flr x0 x1 from (flr_0 lc_3))
set_option maxHeartbeats 8000000 in
set_option maxRecDepth 100000 in
theorem s_X7_two_v0 (l : Launch) (dC : Nat → ClassId) (dI : Nat → Nat → Nat) (cI cJ cZ cM : ClassId) (x0 : Int32) (x1 : Int64) (x2 : Int64)  : k_Ml l yX7_two wsX7_two ({ frames := 2, cells := 0, slots := 0, locals := 65 }) (dC, dI) vwCl (tyy cI cJ cZ cM) [] [.int x0, .long x1, .long x2] 0 0 (fun (u9 : Unit) => []) (fun (r9 : Int64) (u9 : Unit) => (r9 = twf x0 x1 x2)) := by
  refine fun sz => k_enter (cc := cX7_two) (maxL := 5) (ret := some (.long)) (Qc := fun A => va_Ql (fun (r9 : Int64) (u9 : Unit) => (r9 = twf x0 x1 x2)) (fun u => k_B (dC, dI) vwCl (tyy cI cJ cZ cM) A ((fun (u9 : Unit) => []) u)) A) sz (by decide +kernel) rfl (Nat.le_of_ble_eq_true rfl) (fun p e s m args below meth c A ls H locs B hP hD hS hl => ?_)
  obtain ⟨hx, hb, hml, hown, hts, hr, hlk, hnm, hK, hA, hN, hC⟩ := id B
  have hown : s.vm.findClass RX7 = some m.cls := hown
  have hl : lv_has ls 5 [(0, .int x0), (1, .long x1), (3, .long x2)] := hl
  refine lv_iload_n hx hb dX7_two_0 rfl (lv_at hl 0 rfl) ?_
  rcases (show x0.toInt = 10 ∨ x0.toInt = 11 ∨ x0.toInt = 12 ∨ x0.toInt = 13 ∨ x0.toInt = 14 ∨ x0.toInt = 15 ∨ x0.toInt = 16 ∨ x0.toInt = 17 ∨ x0.toInt = 18 ∨ x0.toInt = 19 ∨ x0.toInt = 20 ∨ (¬ x0.toInt = 10 ∧ ¬ x0.toInt = 11 ∧ ¬ x0.toInt = 12 ∧ ¬ x0.toInt = 13 ∧ ¬ x0.toInt = 14 ∧ ¬ x0.toInt = 15 ∧ ¬ x0.toInt = 16 ∧ ¬ x0.toInt = 17 ∧ ¬ x0.toInt = 18 ∧ ¬ x0.toInt = 19 ∧ ¬ x0.toInt = 20) by omega) with c_1 | c_1 | c_1 | c_1 | c_1 | c_1 | c_1 | c_1 | c_1 | c_1 | c_1 | c_1
  · have f_60_1 : iR x0 10 10 := iR_c c_1 (by decide +kernel)
    refine lv_tableIn (off := 59) (tgt := 60) hx hb dX7_two_1 (by rw [c_1]; decide) (by rw [c_1]; decide) (by rw [c_1]; decide +kernel) (by decide +kernel) ?_
    refine lv_lload_n hx hb dX7_two_60 rfl (lv_at hl 1 rfl) ?_
    refine lv_lload_n hx hb dX7_two_61 rfl (lv_at hl 2 rfl) ?_
    refine lv_ladd hx hb dX7_two_62 ?_
    refine lv_topl (fun y_62 ey_62 => ?_)
    refine k_cl (wc := []) (wr := []) (fun hPc hDc hFc => va_runS (As := [.long y_62]) (rest := []) ⟨hx, hb, hml, hown, hts⟩ (s_X7_held_v0 l dC dI cI cJ cZ cM y_62 H.size) (va_cwS 1 hts gX7_two_X7_held rfl rfl rfl (by decide +kernel) ⟨(Nat.le_of_ble_eq_true rfl), (Nat.le_of_ble_eq_true rfl)⟩) (k_pS hPc hDc hK hN hC hS hFc) rfl rfl hl.1 rfl (lv_room (Nat.le_of_ble_eq_true rfl)) dX7_two_63 ⟨(Nat.le_of_ble_eq_true rfl), (Nat.le_of_ble_eq_true rfl)⟩) hP hD hS hA [] [] rfl rfl rfl rfl (by decide) (fun _ => rfl) 0 0 rfl rfl (fun r_63 u_63 H locs hw hP hD hS => ?_)
    have g_63_0 := hw
    have hP : va_P (dC, dI) vwCl [] H := hP
    have hD : va_D A [] := hD
    have g_63_0 : r_63 = hld y_62 := g_63_0
    exact k_rl B hP hD hS dX7_two_66 () [] rfl rfl (Nat.le_of_ble_eq_true rfl) (Nat.le_of_ble_eq_true rfl) (show r_63 = twf x0 x1 x2 from (twf_10 (show x0 = (10 : Int32) from k_eqL (by decide +kernel) c_1) ey_62 g_63_0))
  · have f_67_1 : iR x0 11 11 := iR_c c_1 (by decide +kernel)
    refine lv_tableIn (off := 66) (tgt := 67) hx hb dX7_two_1 (by rw [c_1]; decide) (by rw [c_1]; decide) (by rw [c_1]; decide +kernel) (by decide +kernel) ?_
    refine lv_lload_n hx hb dX7_two_67 rfl (lv_at hl 1 rfl) ?_
    refine lv_lload_n hx hb dX7_two_68 rfl (lv_at hl 2 rfl) ?_
    refine lv_lsub hx hb dX7_two_69 ?_
    refine lv_topl (fun y_69 ey_69 => ?_)
    refine k_cl (wc := []) (wr := []) (fun hPc hDc hFc => va_runS (As := [.long y_69]) (rest := []) ⟨hx, hb, hml, hown, hts⟩ (s_X7_held_v0 l dC dI cI cJ cZ cM y_69 H.size) (va_cwS 1 hts gX7_two_X7_held rfl rfl rfl (by decide +kernel) ⟨(Nat.le_of_ble_eq_true rfl), (Nat.le_of_ble_eq_true rfl)⟩) (k_pS hPc hDc hK hN hC hS hFc) rfl rfl hl.1 rfl (lv_room (Nat.le_of_ble_eq_true rfl)) dX7_two_70 ⟨(Nat.le_of_ble_eq_true rfl), (Nat.le_of_ble_eq_true rfl)⟩) hP hD hS hA [] [] rfl rfl rfl rfl (by decide) (fun _ => rfl) 0 0 rfl rfl (fun r_70 u_70 H locs hw hP hD hS => ?_)
    have g_70_0 := hw
    have hP : va_P (dC, dI) vwCl [] H := hP
    have hD : va_D A [] := hD
    have g_70_0 : r_70 = hld y_69 := g_70_0
    exact k_rl B hP hD hS dX7_two_73 () [] rfl rfl (Nat.le_of_ble_eq_true rfl) (Nat.le_of_ble_eq_true rfl) (show r_70 = twf x0 x1 x2 from (twf_11 (show x0 = (11 : Int32) from k_eqL (by decide +kernel) c_1) ey_69 g_70_0))
  · have f_74_1 : iR x0 12 12 := iR_c c_1 (by decide +kernel)
    refine lv_tableIn (off := 73) (tgt := 74) hx hb dX7_two_1 (by rw [c_1]; decide) (by rw [c_1]; decide) (by rw [c_1]; decide +kernel) (by decide +kernel) ?_
    refine lv_lload_n hx hb dX7_two_74 rfl (lv_at hl 1 rfl) ?_
    refine lv_lload_n hx hb dX7_two_75 rfl (lv_at hl 2 rfl) ?_
    refine lv_lmul hx hb dX7_two_76 ?_
    refine lv_topl (fun y_76 ey_76 => ?_)
    refine k_cl (wc := []) (wr := []) (fun hPc hDc hFc => va_runS (As := [.long y_76]) (rest := []) ⟨hx, hb, hml, hown, hts⟩ (s_X7_held_v0 l dC dI cI cJ cZ cM y_76 H.size) (va_cwS 1 hts gX7_two_X7_held rfl rfl rfl (by decide +kernel) ⟨(Nat.le_of_ble_eq_true rfl), (Nat.le_of_ble_eq_true rfl)⟩) (k_pS hPc hDc hK hN hC hS hFc) rfl rfl hl.1 rfl (lv_room (Nat.le_of_ble_eq_true rfl)) dX7_two_77 ⟨(Nat.le_of_ble_eq_true rfl), (Nat.le_of_ble_eq_true rfl)⟩) hP hD hS hA [] [] rfl rfl rfl rfl (by decide) (fun _ => rfl) 0 0 rfl rfl (fun r_77 u_77 H locs hw hP hD hS => ?_)
    have g_77_0 := hw
    have hP : va_P (dC, dI) vwCl [] H := hP
    have hD : va_D A [] := hD
    have g_77_0 : r_77 = hld y_76 := g_77_0
    exact k_rl B hP hD hS dX7_two_80 () [] rfl rfl (Nat.le_of_ble_eq_true rfl) (Nat.le_of_ble_eq_true rfl) (show r_77 = twf x0 x1 x2 from (twf_12 (show x0 = (12 : Int32) from k_eqL (by decide +kernel) c_1) ey_76 g_77_0))
  · have f_81_1 : iR x0 13 13 := iR_c c_1 (by decide +kernel)
    refine lv_tableIn (off := 80) (tgt := 81) hx hb dX7_two_1 (by rw [c_1]; decide) (by rw [c_1]; decide) (by rw [c_1]; decide +kernel) (by decide +kernel) ?_
    refine lv_lload_n hx hb dX7_two_81 rfl (lv_at hl 1 rfl) ?_
    refine lv_lload_n hx hb dX7_two_82 rfl (lv_at hl 2 rfl) ?_
    refine k_cl (wc := []) (wr := []) (fun hPc hDc hFc => va_runS (As := [.long x1, .long x2]) (rest := []) ⟨hx, hb, hml, hown, hts⟩ (s_X7_floor_v0 l dC dI cI cJ cZ cM x1 x2 H.size) (va_cwS 2 hts gX7_two_X7_floor rfl rfl rfl (by decide +kernel) ⟨(Nat.le_of_ble_eq_true rfl), (Nat.le_of_ble_eq_true rfl)⟩) (k_pS hPc hDc hK hN hC hS hFc) rfl rfl hl.1 rfl (lv_room (Nat.le_of_ble_eq_true rfl)) dX7_two_83 ⟨(Nat.le_of_ble_eq_true rfl), (Nat.le_of_ble_eq_true rfl)⟩) hP hD hS hA [] [] rfl rfl rfl rfl (by decide) (fun _ => rfl) 0 0 rfl rfl (fun r_83 u_83 H locs hw hP hD hS => ?_)
    have g_83_0 := hw
    have hP : va_P (dC, dI) vwCl [] H := hP
    have hD : va_D A [] := hD
    have g_83_0 : r_83 = flr x1 x2 := g_83_0
    refine k_cl (wc := []) (wr := []) (fun hPc hDc hFc => va_runS (As := [.long r_83]) (rest := []) ⟨hx, hb, hml, hown, hts⟩ (s_X7_held_v0 l dC dI cI cJ cZ cM r_83 H.size) (va_cwS 1 hts gX7_two_X7_held rfl rfl rfl (by decide +kernel) ⟨(Nat.le_of_ble_eq_true rfl), (Nat.le_of_ble_eq_true rfl)⟩) (k_pS hPc hDc hK hN hC hS hFc) rfl rfl hl.1 rfl (lv_room (Nat.le_of_ble_eq_true rfl)) dX7_two_86 ⟨(Nat.le_of_ble_eq_true rfl), (Nat.le_of_ble_eq_true rfl)⟩) hP hD hS hA [] [] rfl rfl rfl rfl (by decide) (fun _ => rfl) 0 0 rfl rfl (fun r_86 u_86 H locs hw hP hD hS => ?_)
    have g_86_0 := hw
    have hP : va_P (dC, dI) vwCl [] H := hP
    have hD : va_D A [] := hD
    have g_86_0 : r_86 = hld r_83 := g_86_0
    exact k_rl B hP hD hS dX7_two_89 () [] rfl rfl (Nat.le_of_ble_eq_true rfl) (Nat.le_of_ble_eq_true rfl) (show r_86 = twf x0 x1 x2 from (twf_13 (show x0 = (13 : Int32) from k_eqL (by decide +kernel) c_1) g_83_0 g_86_0))
  · have f_90_1 : iR x0 14 14 := iR_c c_1 (by decide +kernel)
    refine lv_tableIn (off := 89) (tgt := 90) hx hb dX7_two_1 (by rw [c_1]; decide) (by rw [c_1]; decide) (by rw [c_1]; decide +kernel) (by decide +kernel) ?_
    refine lv_lload_n hx hb dX7_two_90 rfl (lv_at hl 2 rfl) ?_
    refine lv_lconst (v := 0) hx hb dX7_two_91 (by decide +kernel) ?_
    refine W.lcmp hx hb dX7_two_92 ?_
    refine lv_topi (fun y_92 ey_92 => ?_)
    refine lv_if_ne (tgt := 100) hx hb dX7_two_93 (by decide) (fun c_93 => ?_) (fun c_93 => ?_)
    · have c_93 : ¬ y_92 = 0 := c_93
      have lc_93 : ¬ x2 = 0 := l_cmpne ey_92 c_93
      refine lv_lload_n hx hb dX7_two_100 rfl (lv_at hl 1 rfl) ?_
      refine lv_lload_n hx hb dX7_two_101 rfl (lv_at hl 2 rfl) ?_
      refine lv_lload_n hx hb dX7_two_102 rfl (lv_at hl 1 rfl) ?_
      refine lv_lload_n hx hb dX7_two_103 rfl (lv_at hl 2 rfl) ?_
      refine k_cl (wc := []) (wr := []) (fun hPc hDc hFc => va_runS (As := [.long x1, .long x2]) (rest := [.long x2, .long x1]) ⟨hx, hb, hml, hown, hts⟩ (s_X7_floor_v0 l dC dI cI cJ cZ cM x1 x2 H.size) (va_cwS 2 hts gX7_two_X7_floor rfl rfl rfl (by decide +kernel) ⟨(Nat.le_of_ble_eq_true rfl), (Nat.le_of_ble_eq_true rfl)⟩) (k_pS hPc hDc hK hN hC hS hFc) rfl rfl hl.1 rfl (lv_room (Nat.le_of_ble_eq_true rfl)) dX7_two_104 ⟨(Nat.le_of_ble_eq_true rfl), (Nat.le_of_ble_eq_true rfl)⟩) hP hD hS hA [] [] rfl rfl rfl rfl (by decide) (fun _ => rfl) 0 0 rfl rfl (fun r_104 u_104 H locs hw hP hD hS => ?_)
      have g_104_0 := hw
      have hP : va_P (dC, dI) vwCl [] H := hP
      have hD : va_D A [] := hD
      have g_104_0 : r_104 = flr x1 x2 := g_104_0
      refine lv_lmul hx hb dX7_two_107 ?_
      refine lv_topl (fun y_107 ey_107 => ?_)
      refine lv_lsub hx hb dX7_two_108 ?_
      refine lv_topl (fun y_108 ey_108 => ?_)
      refine k_cl (wc := []) (wr := []) (fun hPc hDc hFc => va_runS (As := [.long y_108]) (rest := []) ⟨hx, hb, hml, hown, hts⟩ (s_X7_held_v0 l dC dI cI cJ cZ cM y_108 H.size) (va_cwS 1 hts gX7_two_X7_held rfl rfl rfl (by decide +kernel) ⟨(Nat.le_of_ble_eq_true rfl), (Nat.le_of_ble_eq_true rfl)⟩) (k_pS hPc hDc hK hN hC hS hFc) rfl rfl hl.1 rfl (lv_room (Nat.le_of_ble_eq_true rfl)) dX7_two_109 ⟨(Nat.le_of_ble_eq_true rfl), (Nat.le_of_ble_eq_true rfl)⟩) hP hD hS hA [] [] rfl rfl rfl rfl (by decide) (fun _ => rfl) 0 0 rfl rfl (fun r_109 u_109 H locs hw hP hD hS => ?_)
      have g_109_0 := hw
      have hP : va_P (dC, dI) vwCl [] H := hP
      have hD : va_D A [] := hD
      have g_109_0 : r_109 = hld y_108 := g_109_0
      exact k_rl B hP hD hS dX7_two_112 () [] rfl rfl (Nat.le_of_ble_eq_true rfl) (Nat.le_of_ble_eq_true rfl) (show r_109 = twf x0 x1 x2 from (twf_14 (show x0 = (14 : Int32) from k_eqL (by decide +kernel) c_1) lc_93 g_104_0 ey_107 ey_108 g_109_0))
    · have c_93 : y_92 = 0 := c_93
      have f_96_2 : iR y_92 0 0 := iR_eqL c_93 (iR_top _) (iR_c (n := 0) (a := 0) (b := 0) (by decide +kernel) (by decide +kernel)) (by decide +kernel)
      have lc_93 : x2 = 0 := l_cmpe ey_92 c_93
      refine lv_lconst (v := 0) hx hb dX7_two_96 (by decide +kernel) ?_
      refine lv_goto (tgt := 112) hx hb dX7_two_97 (by decide) ?_
      exact k_rl B hP hD hS dX7_two_112 () [] rfl rfl (Nat.le_of_ble_eq_true rfl) (Nat.le_of_ble_eq_true rfl) (show 0 = twf x0 x1 x2 from (twf_14z (show x0 = (14 : Int32) from k_eqL (by decide +kernel) c_1) lc_93))
  · have f_113_1 : iR x0 15 15 := iR_c c_1 (by decide +kernel)
    refine lv_tableIn (off := 112) (tgt := 113) hx hb dX7_two_1 (by rw [c_1]; decide) (by rw [c_1]; decide) (by rw [c_1]; decide +kernel) (by decide +kernel) ?_
    refine lv_lload_n hx hb dX7_two_113 rfl (lv_at hl 1 rfl) ?_
    refine lv_lload_n hx hb dX7_two_114 rfl (lv_at hl 2 rfl) ?_
    refine W.lcmp hx hb dX7_two_115 ?_
    refine lv_topi (fun y_115 ey_115 => ?_)
    refine lv_if_ge (tgt := 123) hx hb dX7_two_116 (by decide) (fun c_116 => ?_) (fun c_116 => ?_)
    · have c_116 : 0 ≤ y_115 := c_116
      have f_123_2 : iR y_115 0 2147483647 := iR_leR c_116 (iR_c (n := 0) (a := 0) (b := 0) (by decide +kernel) (by decide +kernel)) (iR_top _) (by decide +kernel)
      have lc_116 : x2 ≤ x1 := l_cmpge ey_115 c_116
      refine lv_lload_n hx hb dX7_two_123 rfl (lv_at hl 2 rfl) ?_
      exact k_rl B hP hD hS dX7_two_124 () [] rfl rfl (Nat.le_of_ble_eq_true rfl) (Nat.le_of_ble_eq_true rfl) (show x2 = twf x0 x1 x2 from (twf_15b (show x0 = (15 : Int32) from k_eqL (by decide +kernel) c_1) lc_116))
    · have c_116 : y_115 < 0 := i_nle c_116
      have f_119_2 : iR y_115 (-2147483648) (-1) := iR_ltL c_116 (iR_top _) (iR_c (n := 0) (a := 0) (b := 0) (by decide +kernel) (by decide +kernel)) (by decide +kernel)
      have lc_116 : x1 < x2 := l_cmplt ey_115 c_116
      refine lv_lload_n hx hb dX7_two_119 rfl (lv_at hl 1 rfl) ?_
      refine lv_goto (tgt := 124) hx hb dX7_two_120 (by decide) ?_
      exact k_rl B hP hD hS dX7_two_124 () [] rfl rfl (Nat.le_of_ble_eq_true rfl) (Nat.le_of_ble_eq_true rfl) (show x1 = twf x0 x1 x2 from (twf_15a (show x0 = (15 : Int32) from k_eqL (by decide +kernel) c_1) lc_116))
  · have f_125_1 : iR x0 16 16 := iR_c c_1 (by decide +kernel)
    refine lv_tableIn (off := 124) (tgt := 125) hx hb dX7_two_1 (by rw [c_1]; decide) (by rw [c_1]; decide) (by rw [c_1]; decide +kernel) (by decide +kernel) ?_
    refine lv_lload_n hx hb dX7_two_125 rfl (lv_at hl 1 rfl) ?_
    refine lv_lload_n hx hb dX7_two_126 rfl (lv_at hl 2 rfl) ?_
    refine W.lcmp hx hb dX7_two_127 ?_
    refine lv_topi (fun y_127 ey_127 => ?_)
    refine lv_if_le (tgt := 135) hx hb dX7_two_128 (by decide) (fun c_128 => ?_) (fun c_128 => ?_)
    · have c_128 : y_127 ≤ 0 := c_128
      have f_135_2 : iR y_127 (-2147483648) 0 := iR_leL c_128 (iR_top _) (iR_c (n := 0) (a := 0) (b := 0) (by decide +kernel) (by decide +kernel)) (by decide +kernel)
      have lc_128 : x1 ≤ x2 := l_cmple ey_127 c_128
      refine lv_lload_n hx hb dX7_two_135 rfl (lv_at hl 2 rfl) ?_
      exact k_rl B hP hD hS dX7_two_136 () [] rfl rfl (Nat.le_of_ble_eq_true rfl) (Nat.le_of_ble_eq_true rfl) (show x2 = twf x0 x1 x2 from (twf_16b (show x0 = (16 : Int32) from k_eqL (by decide +kernel) c_1) lc_128))
    · have c_128 : 0 < y_127 := i_nle c_128
      have f_131_2 : iR y_127 1 2147483647 := iR_ltR c_128 (iR_c (n := 0) (a := 0) (b := 0) (by decide +kernel) (by decide +kernel)) (iR_top _) (by decide +kernel)
      have lc_128 : x2 < x1 := l_cmpgt ey_127 c_128
      refine lv_lload_n hx hb dX7_two_131 rfl (lv_at hl 1 rfl) ?_
      refine lv_goto (tgt := 136) hx hb dX7_two_132 (by decide) ?_
      exact k_rl B hP hD hS dX7_two_136 () [] rfl rfl (Nat.le_of_ble_eq_true rfl) (Nat.le_of_ble_eq_true rfl) (show x1 = twf x0 x1 x2 from (twf_16a (show x0 = (16 : Int32) from k_eqL (by decide +kernel) c_1) lc_128))
  · have f_137_1 : iR x0 17 17 := iR_c c_1 (by decide +kernel)
    refine lv_tableIn (off := 136) (tgt := 137) hx hb dX7_two_1 (by rw [c_1]; decide) (by rw [c_1]; decide) (by rw [c_1]; decide +kernel) (by decide +kernel) ?_
    refine lv_lload_n hx hb dX7_two_137 rfl (lv_at hl 1 rfl) ?_
    refine lv_lload_n hx hb dX7_two_138 rfl (lv_at hl 2 rfl) ?_
    refine W.lcmp hx hb dX7_two_139 ?_
    refine lv_topi (fun y_139 ey_139 => ?_)
    refine lv_if_ge (tgt := 147) hx hb dX7_two_140 (by decide) (fun c_140 => ?_) (fun c_140 => ?_)
    · have c_140 : 0 ≤ y_139 := c_140
      have f_147_2 : iR y_139 0 2147483647 := iR_leR c_140 (iR_c (n := 0) (a := 0) (b := 0) (by decide +kernel) (by decide +kernel)) (iR_top _) (by decide +kernel)
      have lc_140 : x2 ≤ x1 := l_cmpge ey_139 c_140
      refine lv_lconst (v := 0) hx hb dX7_two_147 (by decide +kernel) ?_
      exact k_rl B hP hD hS dX7_two_148 () [] rfl rfl (Nat.le_of_ble_eq_true rfl) (Nat.le_of_ble_eq_true rfl) (show 0 = twf x0 x1 x2 from (twf_17b (show x0 = (17 : Int32) from k_eqL (by decide +kernel) c_1) lc_140))
    · have c_140 : y_139 < 0 := i_nle c_140
      have f_143_2 : iR y_139 (-2147483648) (-1) := iR_ltL c_140 (iR_top _) (iR_c (n := 0) (a := 0) (b := 0) (by decide +kernel) (by decide +kernel)) (by decide +kernel)
      have lc_140 : x1 < x2 := l_cmplt ey_139 c_140
      refine lv_lconst (v := 1) hx hb dX7_two_143 (by decide +kernel) ?_
      refine lv_goto (tgt := 148) hx hb dX7_two_144 (by decide) ?_
      exact k_rl B hP hD hS dX7_two_148 () [] rfl rfl (Nat.le_of_ble_eq_true rfl) (Nat.le_of_ble_eq_true rfl) (show 1 = twf x0 x1 x2 from (twf_17a (show x0 = (17 : Int32) from k_eqL (by decide +kernel) c_1) lc_140))
  · have f_149_1 : iR x0 18 18 := iR_c c_1 (by decide +kernel)
    refine lv_tableIn (off := 148) (tgt := 149) hx hb dX7_two_1 (by rw [c_1]; decide) (by rw [c_1]; decide) (by rw [c_1]; decide +kernel) (by decide +kernel) ?_
    refine lv_lload_n hx hb dX7_two_149 rfl (lv_at hl 1 rfl) ?_
    refine lv_lload_n hx hb dX7_two_150 rfl (lv_at hl 2 rfl) ?_
    refine W.lcmp hx hb dX7_two_151 ?_
    refine lv_topi (fun y_151 ey_151 => ?_)
    refine lv_if_le (tgt := 159) hx hb dX7_two_152 (by decide) (fun c_152 => ?_) (fun c_152 => ?_)
    · have c_152 : y_151 ≤ 0 := c_152
      have f_159_2 : iR y_151 (-2147483648) 0 := iR_leL c_152 (iR_top _) (iR_c (n := 0) (a := 0) (b := 0) (by decide +kernel) (by decide +kernel)) (by decide +kernel)
      have lc_152 : x1 ≤ x2 := l_cmple ey_151 c_152
      refine lv_lconst (v := 0) hx hb dX7_two_159 (by decide +kernel) ?_
      exact k_rl B hP hD hS dX7_two_160 () [] rfl rfl (Nat.le_of_ble_eq_true rfl) (Nat.le_of_ble_eq_true rfl) (show 0 = twf x0 x1 x2 from (twf_18b (show x0 = (18 : Int32) from k_eqL (by decide +kernel) c_1) lc_152))
    · have c_152 : 0 < y_151 := i_nle c_152
      have f_155_2 : iR y_151 1 2147483647 := iR_ltR c_152 (iR_c (n := 0) (a := 0) (b := 0) (by decide +kernel) (by decide +kernel)) (iR_top _) (by decide +kernel)
      have lc_152 : x2 < x1 := l_cmpgt ey_151 c_152
      refine lv_lconst (v := 1) hx hb dX7_two_155 (by decide +kernel) ?_
      refine lv_goto (tgt := 160) hx hb dX7_two_156 (by decide) ?_
      exact k_rl B hP hD hS dX7_two_160 () [] rfl rfl (Nat.le_of_ble_eq_true rfl) (Nat.le_of_ble_eq_true rfl) (show 1 = twf x0 x1 x2 from (twf_18a (show x0 = (18 : Int32) from k_eqL (by decide +kernel) c_1) lc_152))
  · have f_161_1 : iR x0 19 19 := iR_c c_1 (by decide +kernel)
    refine lv_tableIn (off := 160) (tgt := 161) hx hb dX7_two_1 (by rw [c_1]; decide) (by rw [c_1]; decide) (by rw [c_1]; decide +kernel) (by decide +kernel) ?_
    refine lv_lload_n hx hb dX7_two_161 rfl (lv_at hl 1 rfl) ?_
    refine lv_lload_n hx hb dX7_two_162 rfl (lv_at hl 2 rfl) ?_
    refine W.lcmp hx hb dX7_two_163 ?_
    refine lv_topi (fun y_163 ey_163 => ?_)
    refine lv_if_ne (tgt := 171) hx hb dX7_two_164 (by decide) (fun c_164 => ?_) (fun c_164 => ?_)
    · have c_164 : ¬ y_163 = 0 := c_164
      have lc_164 : ¬ x1 = x2 := l_cmpne ey_163 c_164
      refine lv_lconst (v := 0) hx hb dX7_two_171 (by decide +kernel) ?_
      exact k_rl B hP hD hS dX7_two_172 () [] rfl rfl (Nat.le_of_ble_eq_true rfl) (Nat.le_of_ble_eq_true rfl) (show 0 = twf x0 x1 x2 from (twf_19b (show x0 = (19 : Int32) from k_eqL (by decide +kernel) c_1) lc_164))
    · have c_164 : y_163 = 0 := c_164
      have f_167_2 : iR y_163 0 0 := iR_eqL c_164 (iR_top _) (iR_c (n := 0) (a := 0) (b := 0) (by decide +kernel) (by decide +kernel)) (by decide +kernel)
      have lc_164 : x1 = x2 := l_cmpe ey_163 c_164
      refine lv_lconst (v := 1) hx hb dX7_two_167 (by decide +kernel) ?_
      refine lv_goto (tgt := 172) hx hb dX7_two_168 (by decide) ?_
      exact k_rl B hP hD hS dX7_two_172 () [] rfl rfl (Nat.le_of_ble_eq_true rfl) (Nat.le_of_ble_eq_true rfl) (show 1 = twf x0 x1 x2 from (twf_19a (show x0 = (19 : Int32) from k_eqL (by decide +kernel) c_1) lc_164))
  · have f_173_1 : iR x0 20 20 := iR_c c_1 (by decide +kernel)
    refine lv_tableIn (off := 172) (tgt := 173) hx hb dX7_two_1 (by rw [c_1]; decide) (by rw [c_1]; decide) (by rw [c_1]; decide +kernel) (by decide +kernel) ?_
    refine lv_lload_n hx hb dX7_two_173 rfl (lv_at hl 1 rfl) ?_
    refine lv_lload_n hx hb dX7_two_174 rfl (lv_at hl 2 rfl) ?_
    refine lv_land hx hb dX7_two_175 ?_
    refine lv_topl (fun y_175 ey_175 => ?_)
    exact k_rl B hP hD hS dX7_two_176 () [] rfl rfl (Nat.le_of_ble_eq_true rfl) (Nat.le_of_ble_eq_true rfl) (show y_175 = twf x0 x1 x2 from (twf_20 (show x0 = (20 : Int32) from k_eqL (by decide +kernel) c_1) ey_175))
  · refine lv_tableOut (tgt := 177) hx hb dX7_two_1 (by omega) (by decide +kernel) ?_
    refine lv_lload_n hx hb dX7_two_177 rfl (lv_at hl 1 rfl) ?_
    refine lv_lload_n hx hb dX7_two_178 rfl (lv_at hl 2 rfl) ?_
    refine lv_lor hx hb dX7_two_179 ?_
    refine lv_topl (fun y_179 ey_179 => ?_)
    exact k_rl B hP hD hS dX7_two_180 () [] rfl rfl (Nat.le_of_ble_eq_true rfl) (Nat.le_of_ble_eq_true rfl) (show y_179 = twf x0 x1 x2 from (twf_d c_1 ey_179))
set_option maxHeartbeats 8000000 in
set_option maxRecDepth 100000 in
theorem s_X7_bits_v0 (l : Launch) (dC : Nat → ClassId) (dI : Nat → Nat → Nat) (cI cJ cZ cM : ClassId) (x0 : Int32)  : k_Mi l yX7_bits wsX7_bits ({ frames := 1, cells := 0, slots := 0, locals := 40 }) (dC, dI) vwCl (tyy cI cJ cZ cM) [] [.int x0] 0 0 (fun (u9 : Unit) => []) (fun (r9 : Int32) (u9 : Unit) => (r9 = bcf x0)) := by
  refine fun sz => k_enter (cc := cX7_bits) (maxL := 3) (ret := some (.int)) (Qc := fun A => va_Qi (fun (r9 : Int32) (u9 : Unit) => (r9 = bcf x0)) (fun u => k_B (dC, dI) vwCl (tyy cI cJ cZ cM) A ((fun (u9 : Unit) => []) u)) A) sz (by decide +kernel) rfl (Nat.le_of_ble_eq_true rfl) (fun p e s m args below meth c A ls H locs B hP hD hS hl => ?_)
  obtain ⟨hx, hb, hml, hown, hts, hr, hlk, hnm, hK, hA, hN, hC⟩ := id B
  have hown : s.vm.findClass RX7 = some m.cls := hown
  have hl : lv_has ls 3 [(0, .int x0)] := hl
  refine lv_iconst (v := 0) hx hb dX7_bits_0 (by decide +kernel) ?_
  refine lv_istore_n (lv' := [(1, .int 0), (0, .int x0)]) hx hb dX7_bits_1 rfl hl (by decide) rfl (fun ls hl => ?_)
  refine lv_iload_n hx hb dX7_bits_2 rfl (lv_at hl 1 rfl) ?_
  have J_4 : ∀ (n_4 : Nat) (j4_L1 : Int32) (j4_L2 : Int32) (p4_0 : bcf x0 = j4_L1 + bcf j4_L2) (hm_4 : j4_L2.toBitVec.toNat < n_4) (H : Heap) (locs : List Loc) (ls : Array Slot), va_P (dC, dI) vwCl [] H → va_D A [] → va_S A s.heap H locs → lv_has ls 3 [(1, .int j4_L1), (2, .int j4_L2)] → W p l e ({ frames := 1, cells := 0, slots := 0, locals := 40 }) s m args below meth c H locs 0 0 (MQ below (va_Qi (fun (r9 : Int32) (u9 : Unit) => (r9 = bcf x0)) (fun u => k_B (dC, dI) vwCl (tyy cI cJ cZ cM) A ((fun (u9 : Unit) => []) u)) A) args s 0 0 A) (F0 m 4 ls []) := by
    intro n_4
    induction n_4 with
    | zero => intro j4_L1 j4_L2 p4_0 hm_4; exact absurd hm_4 (Nat.not_lt_zero _)
    | succ n_4 ih_4 =>
      intro j4_L1 j4_L2 p4_0 hm_4 H locs ls hP hD hS hl
      refine lv_iload_n hx hb dX7_bits_4 rfl (lv_at hl 1 rfl) ?_
      refine lv_if_eq (tgt := 20) hx hb dX7_bits_5 (by decide) (fun c_5 => ?_) (fun c_5 => ?_)
      · have c_5 : j4_L2 = 0 := c_5
        have f_20_1 : iR j4_L2 0 0 := iR_eqL c_5 (iR_top _) (iR_c (n := 0) (a := 0) (b := 0) (by decide +kernel) (by decide +kernel)) (by decide +kernel)
        refine lv_iload_n hx hb dX7_bits_20 rfl (lv_at hl 0 rfl) ?_
        exact k_ri B hP hD hS dX7_bits_21 () [] rfl rfl rfl (Nat.le_of_ble_eq_true rfl) (Nat.le_of_ble_eq_true rfl) (show j4_L1 = bcf x0 from (bcf_end c_5 p4_0))
      · have c_5 : ¬ j4_L2 = 0 := c_5
        obtain ⟨y_8, ey_8⟩ : ∃ y : Int32, y = j4_L1 + 1 := ⟨_, rfl⟩
        refine lv_iinc (v := y_8) (lv' := [(1, .int y_8), (2, .int j4_L2)]) hx hb dX7_bits_8 hl (k := 0) rfl ey_8.symm (by decide) rfl (fun ls hl => ?_)
        refine lv_iload_n hx hb dX7_bits_11 rfl (lv_at hl 1 rfl) ?_
        refine lv_iload_n hx hb dX7_bits_12 rfl (lv_at hl 1 rfl) ?_
        refine lv_iconst (v := 1) hx hb dX7_bits_13 (by decide +kernel) ?_
        refine lv_isub hx hb dX7_bits_14 ?_
        refine lv_topi (fun y_14 ey_14 => ?_)
        refine lv_iand hx hb dX7_bits_15 ?_
        refine lv_topi (fun y_15 ey_15 => ?_)
        refine lv_istore_n (lv' := [(2, .int y_15), (1, .int y_8)]) hx hb dX7_bits_16 rfl hl (by decide) rfl (fun ls hl => ?_)
        refine lv_goto (tgt := 4) hx hb dX7_bits_17 (by decide) ?_
        exact ih_4 y_8 y_15 (show bcf x0 = y_8 + bcf y_15 from (bcf_step c_5 p4_0 ey_14 ey_15 ey_8)) (m_bits hm_4 ey_14 ey_15 c_5) H locs ls hP hD hS (lv_sub hl [1, 0] rfl)
  refine lv_istore_n (lv' := [(2, .int x0), (1, .int 0), (0, .int x0)]) hx hb dX7_bits_3 rfl hl (by decide) rfl (fun ls hl => ?_)
  exact J_4 _ 0 x0 (show bcf x0 = (0 : Int32) + bcf x0 from (Int32.zero_add _).symm) (Nat.lt_succ_self _) H locs ls hP hD hS (lv_sub hl [1, 0] rfl)
set_option maxHeartbeats 8000000 in
set_option maxRecDepth 100000 in
theorem s_X7_wordsOf_v0 (l : Launch) (dC : Nat → ClassId) (dI : Nat → Nat → Nat) (cI cJ cZ cM : ClassId) (h : Nat) (r : Nat → Nat) (i : Nat → Int32) (j : Nat → Int64) (x1 : Int32) (f19 : Nat → Int32) (hx1 : iR x1 0 11) (hI : mR i) : k_Mi l yX7_wordsOf wsX7_wordsOf ({ frames := 1, cells := 0, slots := 0, locals := 40 }) (dC, dI) vwCl (tyy cI cJ cZ cM) [(h, .inr (7, oM r i j)), ((r 19), .inl (cI, 24, .inl f19))] [.ref h, .int x1] 0 0 (fun (u9 : Unit) => [(h, .inr (7, oM r i j)), ((r 19), .inl (cI, 24, .inl f19))]) (fun (r9 : Int32) (u9 : Unit) => (r9 = f19 (12 * (i 13).toNatClampNeg + x1.toNatClampNeg))) := by
  refine fun sz => k_enter (cc := cX7_wordsOf) (maxL := 2) (ret := some (.int)) (Qc := fun A => va_Qi (fun (r9 : Int32) (u9 : Unit) => (r9 = f19 (12 * (i 13).toNatClampNeg + x1.toNatClampNeg))) (fun u => k_B (dC, dI) vwCl (tyy cI cJ cZ cM) A ((fun (u9 : Unit) => [(h, .inr (7, oM r i j)), ((r 19), .inl (cI, 24, .inl f19))]) u)) A) sz (by decide +kernel) rfl (Nat.le_of_ble_eq_true rfl) (fun p e s m args below meth c A ls H locs B hP hD hS hl => ?_)
  obtain ⟨hx, hb, hml, hown, hts, hr, hlk, hnm, hK, hA, hN, hC⟩ := id B
  have hown : s.vm.findClass RX7 = some m.cls := hown
  have hl : lv_has ls 2 [(0, .ref h), (1, .int x1)] := hl
  have w_0 : (Cond.fieldLink RX7 69 "WishSeaModel" "wishWords" "[I").before args s = true := hts _ (List.mem_of_getElem? (i := 1) rfl)
  have w_1 : (Cond.fieldLink RX7 51 "WishSeaModel" "bank" "I").before args s = true := hts _ (List.mem_of_getElem? (i := 2) rfl)
  have hinX7 : ∀ w ∈ u_ws RX7 TX7 92, w ∈ wsX7_wordsOf := fun _ h => List.mem_cons_of_mem _ (List.mem_append_right _ h)
  refine lv_aload_n hx hb dX7_wordsOf_0 rfl (lv_at hl 0 rfl) ?_
  refine k_get (D := (dC, dI)) (ci := 7) (v := .ref (r 19)) (C := RX7) (T := TX7) (N := 92) hx hb hts hinX7 hown hK hP 0 rfl rfl 19 (by decide) w_0 rfl rfl dX7_wordsOf_1 ?_
  refine lv_bipush (v := 12) hx hb dX7_wordsOf_4 (by decide +kernel) ?_
  refine lv_aload_n hx hb dX7_wordsOf_6 rfl (lv_at hl 0 rfl) ?_
  have f_7_1 : iR (i 13) 0 1 := hI 13
  refine k_get (D := (dC, dI)) (ci := 7) (v := .int (i 13)) (C := RX7) (T := TX7) (N := 92) hx hb hts hinX7 hown hK hP 0 rfl rfl 13 (by decide) w_1 rfl rfl dX7_wordsOf_7 ?_
  refine lv_imul hx hb dX7_wordsOf_10 ?_
  refine lv_topi (fun y_10 ey_10 => ?_)
  have xy_10 : y_10.toInt = 12 * (i 13).toInt := i_mul ey_10 (iR_c (n := 12) (a := 12) (b := 12) (by decide +kernel) (by decide +kernel)) f_7_1 (by decide +kernel)
  have f_10_2 : iR y_10 0 12 := iR_mul ey_10 (iR_c (n := 12) (a := 12) (b := 12) (by decide +kernel) (by decide +kernel)) f_7_1 (by decide +kernel)
  refine lv_iload_n hx hb dX7_wordsOf_11 rfl (lv_at hl 1 rfl) ?_
  refine lv_iadd hx hb dX7_wordsOf_12 ?_
  refine lv_topi (fun y_12 ey_12 => ?_)
  have xy_12 : y_12.toInt = y_10.toInt + x1.toInt := i_add ey_12 f_10_2 hx1 (by decide +kernel)
  have f_12_3 : iR y_12 0 23 := iR_add ey_12 f_10_2 hx1 (by decide +kernel)
  refine va_iald hx hb hK hP 1 0 rfl rfl (iR_vp f_12_3 (by decide +kernel)) dX7_wordsOf_13 ?_
  exact k_ri B hP hD hS dX7_wordsOf_14 () [0, 1] rfl rfl rfl (Nat.le_of_ble_eq_true rfl) (Nat.le_of_ble_eq_true rfl) (show (f19 y_12.toNatClampNeg) = f19 (12 * (i 13).toNatClampNeg + x1.toNatClampNeg) from (congrArg f19 (by have ei : y_12.toNatClampNeg = 12 * (i 13).toNatClampNeg + x1.toNatClampNeg := (by have c0 := iR_cn f_12_3 (by decide +kernel); have c1 := iR_cn f_7_1 (by decide +kernel); have c2 := iR_cn hx1 (by decide +kernel); omega); exact ei)))
set_option maxHeartbeats 8000000 in
set_option maxRecDepth 100000 in
theorem s_X7_givesOf_v0 (l : Launch) (dC : Nat → ClassId) (dI : Nat → Nat → Nat) (cI cJ cZ cM : ClassId) (h : Nat) (r : Nat → Nat) (i : Nat → Int32) (j : Nat → Int64) (x1 : Int32) (f20 : Nat → Int32) (hx1 : iR x1 0 11) (hI : mR i) (hf20 : aR f20 0 9) : k_Mi l yX7_givesOf wsX7_givesOf ({ frames := 1, cells := 0, slots := 0, locals := 40 }) (dC, dI) vwCl (tyy cI cJ cZ cM) [(h, .inr (7, oM r i j)), ((r 20), .inl (cI, 24, .inl f20))] [.ref h, .int x1] 0 0 (fun (u9 : Unit) => [(h, .inr (7, oM r i j)), ((r 20), .inl (cI, 24, .inl f20))]) (fun (r9 : Int32) (u9 : Unit) => (iR r9 0 9) ∧ (r9 = f20 (12 * (i 13).toNatClampNeg + x1.toNatClampNeg))) := by
  refine fun sz => k_enter (cc := cX7_givesOf) (maxL := 2) (ret := some (.int)) (Qc := fun A => va_Qi (fun (r9 : Int32) (u9 : Unit) => (iR r9 0 9) ∧ (r9 = f20 (12 * (i 13).toNatClampNeg + x1.toNatClampNeg))) (fun u => k_B (dC, dI) vwCl (tyy cI cJ cZ cM) A ((fun (u9 : Unit) => [(h, .inr (7, oM r i j)), ((r 20), .inl (cI, 24, .inl f20))]) u)) A) sz (by decide +kernel) rfl (Nat.le_of_ble_eq_true rfl) (fun p e s m args below meth c A ls H locs B hP hD hS hl => ?_)
  obtain ⟨hx, hb, hml, hown, hts, hr, hlk, hnm, hK, hA, hN, hC⟩ := id B
  have hown : s.vm.findClass RX7 = some m.cls := hown
  have hl : lv_has ls 2 [(0, .ref h), (1, .int x1)] := hl
  have w_0 : (Cond.fieldLink RX7 72 "WishSeaModel" "wishGives" "[I").before args s = true := hts _ (List.mem_of_getElem? (i := 1) rfl)
  have w_1 : (Cond.fieldLink RX7 51 "WishSeaModel" "bank" "I").before args s = true := hts _ (List.mem_of_getElem? (i := 2) rfl)
  have hinX7 : ∀ w ∈ u_ws RX7 TX7 92, w ∈ wsX7_givesOf := fun _ h => List.mem_cons_of_mem _ (List.mem_append_right _ h)
  refine lv_aload_n hx hb dX7_givesOf_0 rfl (lv_at hl 0 rfl) ?_
  refine k_get (D := (dC, dI)) (ci := 7) (v := .ref (r 20)) (C := RX7) (T := TX7) (N := 92) hx hb hts hinX7 hown hK hP 0 rfl rfl 20 (by decide) w_0 rfl rfl dX7_givesOf_1 ?_
  refine lv_bipush (v := 12) hx hb dX7_givesOf_4 (by decide +kernel) ?_
  refine lv_aload_n hx hb dX7_givesOf_6 rfl (lv_at hl 0 rfl) ?_
  have f_7_1 : iR (i 13) 0 1 := hI 13
  refine k_get (D := (dC, dI)) (ci := 7) (v := .int (i 13)) (C := RX7) (T := TX7) (N := 92) hx hb hts hinX7 hown hK hP 0 rfl rfl 13 (by decide) w_1 rfl rfl dX7_givesOf_7 ?_
  refine lv_imul hx hb dX7_givesOf_10 ?_
  refine lv_topi (fun y_10 ey_10 => ?_)
  have xy_10 : y_10.toInt = 12 * (i 13).toInt := i_mul ey_10 (iR_c (n := 12) (a := 12) (b := 12) (by decide +kernel) (by decide +kernel)) f_7_1 (by decide +kernel)
  have f_10_2 : iR y_10 0 12 := iR_mul ey_10 (iR_c (n := 12) (a := 12) (b := 12) (by decide +kernel) (by decide +kernel)) f_7_1 (by decide +kernel)
  refine lv_iload_n hx hb dX7_givesOf_11 rfl (lv_at hl 1 rfl) ?_
  refine lv_iadd hx hb dX7_givesOf_12 ?_
  refine lv_topi (fun y_12 ey_12 => ?_)
  have xy_12 : y_12.toInt = y_10.toInt + x1.toInt := i_add ey_12 f_10_2 hx1 (by decide +kernel)
  have f_12_3 : iR y_12 0 23 := iR_add ey_12 f_10_2 hx1 (by decide +kernel)
  refine va_iald hx hb hK hP 1 0 rfl rfl (iR_vp f_12_3 (by decide +kernel)) dX7_givesOf_13 ?_
  have f_13_4 : iR (f20 y_12.toNatClampNeg) 0 9 := hf20 _
  exact k_ri B hP hD hS dX7_givesOf_14 () [0, 1] rfl rfl rfl (Nat.le_of_ble_eq_true rfl) (Nat.le_of_ble_eq_true rfl) ⟨(show iR (f20 y_12.toNatClampNeg) 0 9 from f_13_4), (show (f20 y_12.toNatClampNeg) = f20 (12 * (i 13).toNatClampNeg + x1.toNatClampNeg) from (congrArg f20 (by have ei : y_12.toNatClampNeg = 12 * (i 13).toNatClampNeg + x1.toNatClampNeg := (by have c0 := iR_cn f_12_3 (by decide +kernel); have c1 := iR_cn f_7_1 (by decide +kernel); have c2 := iR_cn hx1 (by decide +kernel); omega); exact ei)))⟩
set_option maxHeartbeats 8000000 in
set_option maxRecDepth 100000 in
theorem s_X7_rhymeOf_v0 (l : Launch) (dC : Nat → ClassId) (dI : Nat → Nat → Nat) (cI cJ cZ cM : ClassId) (h : Nat) (r : Nat → Nat) (i : Nat → Int32) (j : Nat → Int64) (x1 : Int32) (f16 : Nat → Int32) (f20 : Nat → Int32) (hx1 : iR x1 0 11) (hI : mR i) (hf20 : aR f20 0 9) : k_Mi l yX7_rhymeOf wsX7_rhymeOf ({ frames := 2, cells := 0, slots := 0, locals := 61 }) (dC, dI) vwCl (tyy cI cJ cZ cM) [(h, .inr (7, oM r i j)), ((r 16), .inl (cI, 20, .inl f16)), ((r 20), .inl (cI, 24, .inl f20))] [.ref h, .int x1] 0 0 (fun (u9 : Unit) => [(h, .inr (7, oM r i j)), ((r 16), .inl (cI, 20, .inl f16)), ((r 20), .inl (cI, 24, .inl f20))]) (fun (r9 : Int32) (u9 : Unit) => (r9 = f16 (10 * (i 13).toNatClampNeg + (f20 (12 * (i 13).toNatClampNeg + x1.toNatClampNeg)).toNatClampNeg))) := by
  refine fun sz => k_enter (cc := cX7_rhymeOf) (maxL := 2) (ret := some (.int)) (Qc := fun A => va_Qi (fun (r9 : Int32) (u9 : Unit) => (r9 = f16 (10 * (i 13).toNatClampNeg + (f20 (12 * (i 13).toNatClampNeg + x1.toNatClampNeg)).toNatClampNeg))) (fun u => k_B (dC, dI) vwCl (tyy cI cJ cZ cM) A ((fun (u9 : Unit) => [(h, .inr (7, oM r i j)), ((r 16), .inl (cI, 20, .inl f16)), ((r 20), .inl (cI, 24, .inl f20))]) u)) A) sz (by decide +kernel) rfl (Nat.le_of_ble_eq_true rfl) (fun p e s m args below meth c A ls H locs B hP hD hS hl => ?_)
  obtain ⟨hx, hb, hml, hown, hts, hr, hlk, hnm, hK, hA, hN, hC⟩ := id B
  have hown : s.vm.findClass RX7 = some m.cls := hown
  have hl : lv_has ls 2 [(0, .ref h), (1, .int x1)] := hl
  have w_0 : (Cond.fieldLink RX7 60 "WishSeaModel" "thingRhyme" "[I").before args s = true := hts _ (List.mem_of_getElem? (i := 1) rfl)
  have w_1 : (Cond.fieldLink RX7 51 "WishSeaModel" "bank" "I").before args s = true := hts _ (List.mem_of_getElem? (i := 2) rfl)
  have hinX7 : ∀ w ∈ u_ws RX7 TX7 92, w ∈ wsX7_rhymeOf := fun _ h => List.mem_cons_of_mem _ (List.mem_append_right _ h)
  refine lv_aload_n hx hb dX7_rhymeOf_0 rfl (lv_at hl 0 rfl) ?_
  refine k_get (D := (dC, dI)) (ci := 7) (v := .ref (r 16)) (C := RX7) (T := TX7) (N := 92) hx hb hts hinX7 hown hK hP 0 rfl rfl 16 (by decide) w_0 rfl rfl dX7_rhymeOf_1 ?_
  refine lv_bipush (v := 10) hx hb dX7_rhymeOf_4 (by decide +kernel) ?_
  refine lv_aload_n hx hb dX7_rhymeOf_6 rfl (lv_at hl 0 rfl) ?_
  have f_7_1 : iR (i 13) 0 1 := hI 13
  refine k_get (D := (dC, dI)) (ci := 7) (v := .int (i 13)) (C := RX7) (T := TX7) (N := 92) hx hb hts hinX7 hown hK hP 0 rfl rfl 13 (by decide) w_1 rfl rfl dX7_rhymeOf_7 ?_
  refine lv_imul hx hb dX7_rhymeOf_10 ?_
  refine lv_topi (fun y_10 ey_10 => ?_)
  have xy_10 : y_10.toInt = 10 * (i 13).toInt := i_mul ey_10 (iR_c (n := 10) (a := 10) (b := 10) (by decide +kernel) (by decide +kernel)) f_7_1 (by decide +kernel)
  have f_10_2 : iR y_10 0 10 := iR_mul ey_10 (iR_c (n := 10) (a := 10) (b := 10) (by decide +kernel) (by decide +kernel)) f_7_1 (by decide +kernel)
  refine lv_aload_n hx hb dX7_rhymeOf_11 rfl (lv_at hl 0 rfl) ?_
  refine lv_iload_n hx hb dX7_rhymeOf_12 rfl (lv_at hl 1 rfl) ?_
  refine k_ci (wc := [(h, .inr (7, oM r i j)), ((r 20), .inl (cI, 24, .inl f20))]) (wr := [((r 16), .inl (cI, 20, .inl f16))]) (fun hPc hDc hFc => va_runV (As := [.int x1]) (rest := [.int y_10, .ref (r 16)]) ⟨hx, hb, hml, hown, hts⟩ (s_X7_givesOf_v0 l dC dI cI cJ cZ cM h r i j x1 f20 hx1 hI hf20 H.size) (cwV 1 hts gX7_rhymeOf_X7_givesOf rfl rfl rfl (by decide +kernel) ⟨(Nat.le_of_ble_eq_true rfl), (Nat.le_of_ble_eq_true rfl)⟩) (k_pV hPc hDc hK hN hC hS hFc hP (q0 := 0) (ci := 7) rfl rfl) rfl rfl hl.1 rfl (lv_room (Nat.le_of_ble_eq_true rfl)) dX7_rhymeOf_13 ⟨(Nat.le_of_ble_eq_true rfl), (Nat.le_of_ble_eq_true rfl)⟩) hP hD hS hA [0, 2] [1] rfl rfl rfl rfl (by decide) (fun _ => rfl) 0 0 rfl rfl (fun r_13 u_13 H locs hw hP hD hS => ?_)
  obtain ⟨g_13_0, g_13_1⟩ := hw
  have hP : va_P (dC, dI) vwCl [((r 16), .inl (cI, 20, .inl f16)), (h, .inr (7, oM r i j)), ((r 20), .inl (cI, 24, .inl f20))] H := hP
  have hD : va_D A [((r 16), .inl (cI, 20, .inl f16)), (h, .inr (7, oM r i j)), ((r 20), .inl (cI, 24, .inl f20))] := hD
  have g_13_1 : r_13 = f20 (12 * (i 13).toNatClampNeg + x1.toNatClampNeg) := g_13_1
  refine lv_iadd hx hb dX7_rhymeOf_16 ?_
  refine lv_topi (fun y_16 ey_16 => ?_)
  have xy_16 : y_16.toInt = y_10.toInt + r_13.toInt := i_add ey_16 f_10_2 g_13_0 (by decide +kernel)
  have f_16_3 : iR y_16 0 19 := iR_add ey_16 f_10_2 g_13_0 (by decide +kernel)
  refine va_iald hx hb hK hP 0 0 rfl rfl (iR_vp f_16_3 (by decide +kernel)) dX7_rhymeOf_17 ?_
  exact k_ri B hP hD hS dX7_rhymeOf_18 () [1, 0, 2] rfl rfl rfl (Nat.le_of_ble_eq_true rfl) (Nat.le_of_ble_eq_true rfl) (show (f16 y_16.toNatClampNeg) = f16 (10 * (i 13).toNatClampNeg + (f20 (12 * (i 13).toNatClampNeg + x1.toNatClampNeg)).toNatClampNeg) from (by have ei : y_16.toNatClampNeg = 10 * (i 13).toNatClampNeg + r_13.toNatClampNeg := (by have c0 := iR_cn f_16_3 (by decide +kernel); have c1 := iR_cn f_7_1 (by decide +kernel); have c2 := iR_cn g_13_0 (by decide +kernel); omega); rw [g_13_1] at ei; exact congrArg f16 ei))
set_option maxHeartbeats 8000000 in
set_option maxRecDepth 100000 in
theorem s_X7_part_v0 (l : Launch) (dC : Nat → ClassId) (dI : Nat → Nat → Nat) (cI cJ cZ cM : ClassId) (h : Nat) (r : Nat → Nat) (i : Nat → Int32) (j : Nat → Int64) (x1 : Int32) (x2 : Int32) (f14 : Nat → Int32) (f15 : Nat → Int32) (f16 : Nat → Int32) (f19 : Nat → Int32) (f20 : Nat → Int32) (hI : mR i) (hf14 : aR f14 0 10) (hf15 : aR f15 0 9999) (hf20 : aR f20 0 9) : k_Ml l yX7_part wsX7_part ({ frames := 3, cells := 0, slots := 0, locals := 84 }) (dC, dI) vwCl (tyy cI cJ cZ cM) [(h, .inr (7, oM r i j)), ((r 14), .inl (cI, 2, .inl f14)), ((r 15), .inl (cI, 20, .inl f15)), ((r 16), .inl (cI, 20, .inl f16)), ((r 19), .inl (cI, 24, .inl f19)), ((r 20), .inl (cI, 24, .inl f20))] [.ref h, .int x1, .int x2] 0 0 (fun (u9 : Unit) => [(h, .inr (7, oM r i j)), ((r 14), .inl (cI, 2, .inl f14)), ((r 15), .inl (cI, 20, .inl f15)), ((r 16), .inl (cI, 20, .inl f16)), ((r 19), .inl (cI, 24, .inl f19)), ((r 20), .inl (cI, 24, .inl f20))]) (fun (r9 : Int64) (u9 : Unit) => (r9 = prt x1 x2 (envf f14 f15 f16 f19 f20 (i 13) (i 62) (i 63) (i 64) (i 65) (i 66)))) := by
  refine fun sz => k_enter (cc := cX7_part) (maxL := 3) (ret := some (.long)) (Qc := fun A => va_Ql (fun (r9 : Int64) (u9 : Unit) => (r9 = prt x1 x2 (envf f14 f15 f16 f19 f20 (i 13) (i 62) (i 63) (i 64) (i 65) (i 66)))) (fun u => k_B (dC, dI) vwCl (tyy cI cJ cZ cM) A ((fun (u9 : Unit) => [(h, .inr (7, oM r i j)), ((r 14), .inl (cI, 2, .inl f14)), ((r 15), .inl (cI, 20, .inl f15)), ((r 16), .inl (cI, 20, .inl f16)), ((r 19), .inl (cI, 24, .inl f19)), ((r 20), .inl (cI, 24, .inl f20))]) u)) A) sz (by decide +kernel) rfl (Nat.le_of_ble_eq_true rfl) (fun p e s m args below meth c A ls H locs B hP hD hS hl => ?_)
  obtain ⟨hx, hb, hml, hown, hts, hr, hlk, hnm, hK, hA, hN, hC⟩ := id B
  have hown : s.vm.findClass RX7 = some m.cls := hown
  have hl : lv_has ls 3 [(0, .ref h), (1, .int x1), (2, .int x2)] := hl
  have w_0 : (Cond.fieldLink RX7 201 "WishSeaModel" "askedHad" "I").before args s = true := hts _ (List.mem_of_getElem? (i := 1) rfl)
  have w_1 : (Cond.fieldLink RX7 204 "WishSeaModel" "askedSea" "I").before args s = true := hts _ (List.mem_of_getElem? (i := 2) rfl)
  have w_2 : (Cond.fieldLink RX7 207 "WishSeaModel" "askedSaid" "I").before args s = true := hts _ (List.mem_of_getElem? (i := 3) rfl)
  have w_3 : (Cond.fieldLink RX7 210 "WishSeaModel" "askedDay" "I").before args s = true := hts _ (List.mem_of_getElem? (i := 4) rfl)
  have w_4 : (Cond.fieldLink RX7 213 "WishSeaModel" "askedWish" "I").before args s = true := hts _ (List.mem_of_getElem? (i := 5) rfl)
  have hinX7 : ∀ w ∈ u_ws RX7 TX7 92, w ∈ wsX7_part := fun _ h => List.mem_cons_of_mem _ (List.mem_append_right _ h)
  refine lv_iload_n hx hb dX7_part_0 rfl (lv_at hl 1 rfl) ?_
  rcases (show x1.toInt = 0 ∨ x1.toInt = 1 ∨ x1.toInt = 2 ∨ x1.toInt = 3 ∨ x1.toInt = 4 ∨ x1.toInt = 5 ∨ x1.toInt = 6 ∨ x1.toInt = 7 ∨ (¬ x1.toInt = 0 ∧ ¬ x1.toInt = 1 ∧ ¬ x1.toInt = 2 ∧ ¬ x1.toInt = 3 ∧ ¬ x1.toInt = 4 ∧ ¬ x1.toInt = 5 ∧ ¬ x1.toInt = 6 ∧ ¬ x1.toInt = 7) by omega) with c_1 | c_1 | c_1 | c_1 | c_1 | c_1 | c_1 | c_1 | c_1
  · have f_48_1 : iR x1 0 0 := iR_c c_1 (by decide +kernel)
    refine lv_tableIn (off := 47) (tgt := 48) hx hb dX7_part_1 (by rw [c_1]; decide) (by rw [c_1]; decide) (by rw [c_1]; decide +kernel) (by decide +kernel) ?_
    refine lv_iload_n hx hb dX7_part_48 rfl (lv_at hl 2 rfl) ?_
    refine lv_i2l (v := x2.toInt64) hx hb dX7_part_49 rfl ?_
    refine lv_topl (fun y_49 ey_49 => ?_)
    exact k_rl B hP hD hS dX7_part_50 () [0, 1, 2, 3, 4, 5] rfl rfl (Nat.le_of_ble_eq_true rfl) (Nat.le_of_ble_eq_true rfl) (show y_49 = prt x1 x2 (envf f14 f15 f16 f19 f20 (i 13) (i 62) (i 63) (i 64) (i 65) (i 66)) from (prt_0 (show x1 = (0 : Int32) from k_eqL (by decide +kernel) c_1) ey_49))
  · have f_51_1 : iR x1 1 1 := iR_c c_1 (by decide +kernel)
    refine lv_tableIn (off := 50) (tgt := 51) hx hb dX7_part_1 (by rw [c_1]; decide) (by rw [c_1]; decide) (by rw [c_1]; decide +kernel) (by decide +kernel) ?_
    refine lv_aload_n hx hb dX7_part_51 rfl (lv_at hl 0 rfl) ?_
    refine lv_aload_n hx hb dX7_part_52 rfl (lv_at hl 0 rfl) ?_
    refine k_get (D := (dC, dI)) (ci := 7) (v := .int (i 62)) (C := RX7) (T := TX7) (N := 92) hx hb hts hinX7 hown hK hP 0 rfl rfl 62 (by decide) w_0 rfl rfl dX7_part_53 ?_
    refine k_ci (wc := [(h, .inr (7, oM r i j)), ((r 14), .inl (cI, 2, .inl f14)), ((r 15), .inl (cI, 20, .inl f15))]) (wr := [((r 16), .inl (cI, 20, .inl f16)), ((r 19), .inl (cI, 24, .inl f19)), ((r 20), .inl (cI, 24, .inl f20))]) (fun hPc hDc hFc => va_runV (As := [.int (i 62)]) (rest := []) ⟨hx, hb, hml, hown, hts⟩ (s_X7_worthOf_v0 l dC dI cI cJ cZ cM h r i j (i 62) f14 f15 hI hf14 hf15 H.size) (cwV 1 hts gX7_part_X7_worthOf rfl rfl rfl (by decide +kernel) ⟨(Nat.le_of_ble_eq_true rfl), (Nat.le_of_ble_eq_true rfl)⟩) (k_pV hPc hDc hK hN hC hS hFc hP (q0 := 0) (ci := 7) rfl rfl) rfl rfl hl.1 rfl (lv_room (Nat.le_of_ble_eq_true rfl)) dX7_part_56 ⟨(Nat.le_of_ble_eq_true rfl), (Nat.le_of_ble_eq_true rfl)⟩) hP hD hS hA [0, 1, 2] [3, 4, 5] rfl rfl rfl rfl (by decide) (fun _ => rfl) 0 0 rfl rfl (fun r_56 u_56 H locs hw hP hD hS => ?_)
    obtain ⟨g_56_0, g_56_1⟩ := hw
    have hP : va_P (dC, dI) vwCl [((r 16), .inl (cI, 20, .inl f16)), ((r 19), .inl (cI, 24, .inl f19)), ((r 20), .inl (cI, 24, .inl f20)), (h, .inr (7, oM r i j)), ((r 14), .inl (cI, 2, .inl f14)), ((r 15), .inl (cI, 20, .inl f15))] H := hP
    have hD : va_D A [((r 16), .inl (cI, 20, .inl f16)), ((r 19), .inl (cI, 24, .inl f19)), ((r 20), .inl (cI, 24, .inl f20)), (h, .inr (7, oM r i j)), ((r 14), .inl (cI, 2, .inl f14)), ((r 15), .inl (cI, 20, .inl f15))] := hD
    have g_56_1 : r_56 = wof f15 (i 13).toNatClampNeg (i 62) (f14 (i 13).toNatClampNeg).toNatClampNeg := g_56_1
    refine lv_i2l (v := r_56.toInt64) hx hb dX7_part_59 rfl ?_
    refine lv_topl (fun y_59 ey_59 => ?_)
    exact k_rl B hP hD hS dX7_part_60 () [3, 4, 5, 0, 1, 2] rfl rfl (Nat.le_of_ble_eq_true rfl) (Nat.le_of_ble_eq_true rfl) (show y_59 = prt x1 x2 (envf f14 f15 f16 f19 f20 (i 13) (i 62) (i 63) (i 64) (i 65) (i 66)) from (prt_1 (show x1 = (1 : Int32) from k_eqL (by decide +kernel) c_1) ey_59 g_56_1))
  · have f_61_1 : iR x1 2 2 := iR_c c_1 (by decide +kernel)
    refine lv_tableIn (off := 60) (tgt := 61) hx hb dX7_part_1 (by rw [c_1]; decide) (by rw [c_1]; decide) (by rw [c_1]; decide +kernel) (by decide +kernel) ?_
    refine lv_aload_n hx hb dX7_part_61 rfl (lv_at hl 0 rfl) ?_
    refine k_get (D := (dC, dI)) (ci := 7) (v := .int (i 62)) (C := RX7) (T := TX7) (N := 92) hx hb hts hinX7 hown hK hP 0 rfl rfl 62 (by decide) w_0 rfl rfl dX7_part_62 ?_
    refine k_ci (wc := []) (wr := [(h, .inr (7, oM r i j)), ((r 14), .inl (cI, 2, .inl f14)), ((r 15), .inl (cI, 20, .inl f15)), ((r 16), .inl (cI, 20, .inl f16)), ((r 19), .inl (cI, 24, .inl f19)), ((r 20), .inl (cI, 24, .inl f20))]) (fun hPc hDc hFc => va_runS (As := [.int (i 62)]) (rest := []) ⟨hx, hb, hml, hown, hts⟩ (s_X7_bits_v0 l dC dI cI cJ cZ cM (i 62) H.size) (va_cwS 1 hts gX7_part_X7_bits rfl rfl rfl (by decide +kernel) ⟨(Nat.le_of_ble_eq_true rfl), (Nat.le_of_ble_eq_true rfl)⟩) (k_pS hPc hDc hK hN hC hS hFc) rfl rfl hl.1 rfl (lv_room (Nat.le_of_ble_eq_true rfl)) dX7_part_65 ⟨(Nat.le_of_ble_eq_true rfl), (Nat.le_of_ble_eq_true rfl)⟩) hP hD hS hA [] [0, 1, 2, 3, 4, 5] rfl rfl rfl rfl (by decide) (fun _ => rfl) 0 0 rfl rfl (fun r_65 u_65 H locs hw hP hD hS => ?_)
    have g_65_0 := hw
    have hP : va_P (dC, dI) vwCl [(h, .inr (7, oM r i j)), ((r 14), .inl (cI, 2, .inl f14)), ((r 15), .inl (cI, 20, .inl f15)), ((r 16), .inl (cI, 20, .inl f16)), ((r 19), .inl (cI, 24, .inl f19)), ((r 20), .inl (cI, 24, .inl f20))] H := hP
    have hD : va_D A [(h, .inr (7, oM r i j)), ((r 14), .inl (cI, 2, .inl f14)), ((r 15), .inl (cI, 20, .inl f15)), ((r 16), .inl (cI, 20, .inl f16)), ((r 19), .inl (cI, 24, .inl f19)), ((r 20), .inl (cI, 24, .inl f20))] := hD
    have g_65_0 : r_65 = bcf (i 62) := g_65_0
    refine lv_i2l (v := r_65.toInt64) hx hb dX7_part_68 rfl ?_
    refine lv_topl (fun y_68 ey_68 => ?_)
    exact k_rl B hP hD hS dX7_part_69 () [0, 1, 2, 3, 4, 5] rfl rfl (Nat.le_of_ble_eq_true rfl) (Nat.le_of_ble_eq_true rfl) (show y_68 = prt x1 x2 (envf f14 f15 f16 f19 f20 (i 13) (i 62) (i 63) (i 64) (i 65) (i 66)) from (prt_2 (show x1 = (2 : Int32) from k_eqL (by decide +kernel) c_1) ey_68 g_65_0))
  · have f_70_1 : iR x1 3 3 := iR_c c_1 (by decide +kernel)
    refine lv_tableIn (off := 69) (tgt := 70) hx hb dX7_part_1 (by rw [c_1]; decide) (by rw [c_1]; decide) (by rw [c_1]; decide +kernel) (by decide +kernel) ?_
    refine lv_aload_n hx hb dX7_part_70 rfl (lv_at hl 0 rfl) ?_
    refine k_get (D := (dC, dI)) (ci := 7) (v := .int (i 63)) (C := RX7) (T := TX7) (N := 92) hx hb hts hinX7 hown hK hP 0 rfl rfl 63 (by decide) w_1 rfl rfl dX7_part_71 ?_
    refine lv_i2l (v := (i 63).toInt64) hx hb dX7_part_74 rfl ?_
    refine lv_topl (fun y_74 ey_74 => ?_)
    exact k_rl B hP hD hS dX7_part_75 () [0, 1, 2, 3, 4, 5] rfl rfl (Nat.le_of_ble_eq_true rfl) (Nat.le_of_ble_eq_true rfl) (show y_74 = prt x1 x2 (envf f14 f15 f16 f19 f20 (i 13) (i 62) (i 63) (i 64) (i 65) (i 66)) from (prt_3 (show x1 = (3 : Int32) from k_eqL (by decide +kernel) c_1) ey_74 rfl))
  · have f_76_1 : iR x1 4 4 := iR_c c_1 (by decide +kernel)
    refine lv_tableIn (off := 75) (tgt := 76) hx hb dX7_part_1 (by rw [c_1]; decide) (by rw [c_1]; decide) (by rw [c_1]; decide +kernel) (by decide +kernel) ?_
    refine lv_aload_n hx hb dX7_part_76 rfl (lv_at hl 0 rfl) ?_
    refine k_get (D := (dC, dI)) (ci := 7) (v := .int (i 64)) (C := RX7) (T := TX7) (N := 92) hx hb hts hinX7 hown hK hP 0 rfl rfl 64 (by decide) w_2 rfl rfl dX7_part_77 ?_
    refine lv_i2l (v := (i 64).toInt64) hx hb dX7_part_80 rfl ?_
    refine lv_topl (fun y_80 ey_80 => ?_)
    exact k_rl B hP hD hS dX7_part_81 () [0, 1, 2, 3, 4, 5] rfl rfl (Nat.le_of_ble_eq_true rfl) (Nat.le_of_ble_eq_true rfl) (show y_80 = prt x1 x2 (envf f14 f15 f16 f19 f20 (i 13) (i 62) (i 63) (i 64) (i 65) (i 66)) from (prt_4 (show x1 = (4 : Int32) from k_eqL (by decide +kernel) c_1) ey_80 rfl))
  · have f_82_1 : iR x1 5 5 := iR_c c_1 (by decide +kernel)
    refine lv_tableIn (off := 81) (tgt := 82) hx hb dX7_part_1 (by rw [c_1]; decide) (by rw [c_1]; decide) (by rw [c_1]; decide +kernel) (by decide +kernel) ?_
    refine lv_aload_n hx hb dX7_part_82 rfl (lv_at hl 0 rfl) ?_
    refine k_get (D := (dC, dI)) (ci := 7) (v := .int (i 65)) (C := RX7) (T := TX7) (N := 92) hx hb hts hinX7 hown hK hP 0 rfl rfl 65 (by decide) w_3 rfl rfl dX7_part_83 ?_
    refine lv_i2l (v := (i 65).toInt64) hx hb dX7_part_86 rfl ?_
    refine lv_topl (fun y_86 ey_86 => ?_)
    exact k_rl B hP hD hS dX7_part_87 () [0, 1, 2, 3, 4, 5] rfl rfl (Nat.le_of_ble_eq_true rfl) (Nat.le_of_ble_eq_true rfl) (show y_86 = prt x1 x2 (envf f14 f15 f16 f19 f20 (i 13) (i 62) (i 63) (i 64) (i 65) (i 66)) from (prt_5 (show x1 = (5 : Int32) from k_eqL (by decide +kernel) c_1) ey_86 rfl))
  · have f_88_1 : iR x1 6 6 := iR_c c_1 (by decide +kernel)
    refine lv_tableIn (off := 87) (tgt := 88) hx hb dX7_part_1 (by rw [c_1]; decide) (by rw [c_1]; decide) (by rw [c_1]; decide +kernel) (by decide +kernel) ?_
    refine lv_aload_n hx hb dX7_part_88 rfl (lv_at hl 0 rfl) ?_
    have f_89_2 : iR (i 66) (-1) 11 := hI 66
    refine k_get (D := (dC, dI)) (ci := 7) (v := .int (i 66)) (C := RX7) (T := TX7) (N := 92) hx hb hts hinX7 hown hK hP 0 rfl rfl 66 (by decide) w_4 rfl rfl dX7_part_89 ?_
    refine lv_iconst (v := (-1)) hx hb dX7_part_92 (by decide +kernel) ?_
    refine lv_icmp_ne (tgt := 100) hx hb dX7_part_93 (by decide) (fun c_93 => ?_) (fun c_93 => ?_)
    · have c_93 : ¬ (i 66) = (-1) := c_93
      have f_100_3 : iR (i 66) 0 11 := iR_neL c_93 f_89_2 (iR_c (n := (-1)) (a := (-1)) (b := (-1)) (by decide +kernel) (by decide +kernel)) (by decide +kernel)
      refine lv_aload_n hx hb dX7_part_100 rfl (lv_at hl 0 rfl) ?_
      refine lv_aload_n hx hb dX7_part_101 rfl (lv_at hl 0 rfl) ?_
      refine k_get (D := (dC, dI)) (ci := 7) (v := .int (i 66)) (C := RX7) (T := TX7) (N := 92) hx hb hts hinX7 hown hK hP 0 rfl rfl 66 (by decide) w_4 rfl rfl dX7_part_102 ?_
      refine k_ci (wc := [(h, .inr (7, oM r i j)), ((r 19), .inl (cI, 24, .inl f19))]) (wr := [((r 14), .inl (cI, 2, .inl f14)), ((r 15), .inl (cI, 20, .inl f15)), ((r 16), .inl (cI, 20, .inl f16)), ((r 20), .inl (cI, 24, .inl f20))]) (fun hPc hDc hFc => va_runV (As := [.int (i 66)]) (rest := []) ⟨hx, hb, hml, hown, hts⟩ (s_X7_wordsOf_v0 l dC dI cI cJ cZ cM h r i j (i 66) f19 f_100_3 hI H.size) (cwV 1 hts gX7_part_X7_wordsOf rfl rfl rfl (by decide +kernel) ⟨(Nat.le_of_ble_eq_true rfl), (Nat.le_of_ble_eq_true rfl)⟩) (k_pV hPc hDc hK hN hC hS hFc hP (q0 := 0) (ci := 7) rfl rfl) rfl rfl hl.1 rfl (lv_room (Nat.le_of_ble_eq_true rfl)) dX7_part_105 ⟨(Nat.le_of_ble_eq_true rfl), (Nat.le_of_ble_eq_true rfl)⟩) hP hD hS hA [0, 4] [1, 2, 3, 5] rfl rfl rfl rfl (by decide) (fun _ => rfl) 0 0 rfl rfl (fun r_105 u_105 H locs hw hP hD hS => ?_)
      have g_105_0 := hw
      have hP : va_P (dC, dI) vwCl [((r 14), .inl (cI, 2, .inl f14)), ((r 15), .inl (cI, 20, .inl f15)), ((r 16), .inl (cI, 20, .inl f16)), ((r 20), .inl (cI, 24, .inl f20)), (h, .inr (7, oM r i j)), ((r 19), .inl (cI, 24, .inl f19))] H := hP
      have hD : va_D A [((r 14), .inl (cI, 2, .inl f14)), ((r 15), .inl (cI, 20, .inl f15)), ((r 16), .inl (cI, 20, .inl f16)), ((r 20), .inl (cI, 24, .inl f20)), (h, .inr (7, oM r i j)), ((r 19), .inl (cI, 24, .inl f19))] := hD
      have g_105_0 : r_105 = f19 (12 * (i 13).toNatClampNeg + (i 66).toNatClampNeg) := g_105_0
      refine lv_i2l (v := r_105.toInt64) hx hb dX7_part_108 rfl ?_
      refine lv_topl (fun y_108 ey_108 => ?_)
      exact k_rl B hP hD hS dX7_part_109 () [4, 0, 1, 2, 5, 3] rfl rfl (Nat.le_of_ble_eq_true rfl) (Nat.le_of_ble_eq_true rfl) (show y_108 = prt x1 x2 (envf f14 f15 f16 f19 f20 (i 13) (i 62) (i 63) (i 64) (i 65) (i 66)) from (prt_6 (show x1 = (6 : Int32) from k_eqL (by decide +kernel) c_1) ey_108 (g_105_0.trans (show _ = (envf f14 f15 f16 f19 f20 (i 13) (i 62) (i 63) (i 64) (i 65) (i 66)) 5 from (if_neg c_93).symm))))
    · have c_93 : (i 66) = (-1) := c_93
      have f_96_3 : iR (i 66) (-1) (-1) := iR_eqL c_93 f_89_2 (iR_c (n := (-1)) (a := (-1)) (b := (-1)) (by decide +kernel) (by decide +kernel)) (by decide +kernel)
      refine lv_lconst (v := 0) hx hb dX7_part_96 (by decide +kernel) ?_
      refine lv_goto (tgt := 109) hx hb dX7_part_97 (by decide) ?_
      exact k_rl B hP hD hS dX7_part_109 () [0, 1, 2, 3, 4, 5] rfl rfl (Nat.le_of_ble_eq_true rfl) (Nat.le_of_ble_eq_true rfl) (show 0 = prt x1 x2 (envf f14 f15 f16 f19 f20 (i 13) (i 62) (i 63) (i 64) (i 65) (i 66)) from (prt_6 (show x1 = (6 : Int32) from k_eqL (by decide +kernel) c_1) (prt_z (show (envf f14 f15 f16 f19 f20 (i 13) (i 62) (i 63) (i 64) (i 65) (i 66)) 5 = 0 from if_pos c_93) rfl) rfl))
  · have f_110_1 : iR x1 7 7 := iR_c c_1 (by decide +kernel)
    refine lv_tableIn (off := 109) (tgt := 110) hx hb dX7_part_1 (by rw [c_1]; decide) (by rw [c_1]; decide) (by rw [c_1]; decide +kernel) (by decide +kernel) ?_
    refine lv_aload_n hx hb dX7_part_110 rfl (lv_at hl 0 rfl) ?_
    have f_111_2 : iR (i 66) (-1) 11 := hI 66
    refine k_get (D := (dC, dI)) (ci := 7) (v := .int (i 66)) (C := RX7) (T := TX7) (N := 92) hx hb hts hinX7 hown hK hP 0 rfl rfl 66 (by decide) w_4 rfl rfl dX7_part_111 ?_
    refine lv_iconst (v := (-1)) hx hb dX7_part_114 (by decide +kernel) ?_
    refine lv_icmp_ne (tgt := 122) hx hb dX7_part_115 (by decide) (fun c_115 => ?_) (fun c_115 => ?_)
    · have c_115 : ¬ (i 66) = (-1) := c_115
      have f_122_3 : iR (i 66) 0 11 := iR_neL c_115 f_111_2 (iR_c (n := (-1)) (a := (-1)) (b := (-1)) (by decide +kernel) (by decide +kernel)) (by decide +kernel)
      refine lv_aload_n hx hb dX7_part_122 rfl (lv_at hl 0 rfl) ?_
      refine lv_aload_n hx hb dX7_part_123 rfl (lv_at hl 0 rfl) ?_
      refine k_get (D := (dC, dI)) (ci := 7) (v := .int (i 66)) (C := RX7) (T := TX7) (N := 92) hx hb hts hinX7 hown hK hP 0 rfl rfl 66 (by decide) w_4 rfl rfl dX7_part_124 ?_
      refine k_ci (wc := [(h, .inr (7, oM r i j)), ((r 16), .inl (cI, 20, .inl f16)), ((r 20), .inl (cI, 24, .inl f20))]) (wr := [((r 14), .inl (cI, 2, .inl f14)), ((r 15), .inl (cI, 20, .inl f15)), ((r 19), .inl (cI, 24, .inl f19))]) (fun hPc hDc hFc => va_runV (As := [.int (i 66)]) (rest := []) ⟨hx, hb, hml, hown, hts⟩ (s_X7_rhymeOf_v0 l dC dI cI cJ cZ cM h r i j (i 66) f16 f20 f_122_3 hI hf20 H.size) (cwV 1 hts gX7_part_X7_rhymeOf rfl rfl rfl (by decide +kernel) ⟨(Nat.le_of_ble_eq_true rfl), (Nat.le_of_ble_eq_true rfl)⟩) (k_pV hPc hDc hK hN hC hS hFc hP (q0 := 0) (ci := 7) rfl rfl) rfl rfl hl.1 rfl (lv_room (Nat.le_of_ble_eq_true rfl)) dX7_part_127 ⟨(Nat.le_of_ble_eq_true rfl), (Nat.le_of_ble_eq_true rfl)⟩) hP hD hS hA [0, 3, 5] [1, 2, 4] rfl rfl rfl rfl (by decide) (fun _ => rfl) 0 0 rfl rfl (fun r_127 u_127 H locs hw hP hD hS => ?_)
      have g_127_0 := hw
      have hP : va_P (dC, dI) vwCl [((r 14), .inl (cI, 2, .inl f14)), ((r 15), .inl (cI, 20, .inl f15)), ((r 19), .inl (cI, 24, .inl f19)), (h, .inr (7, oM r i j)), ((r 16), .inl (cI, 20, .inl f16)), ((r 20), .inl (cI, 24, .inl f20))] H := hP
      have hD : va_D A [((r 14), .inl (cI, 2, .inl f14)), ((r 15), .inl (cI, 20, .inl f15)), ((r 19), .inl (cI, 24, .inl f19)), (h, .inr (7, oM r i j)), ((r 16), .inl (cI, 20, .inl f16)), ((r 20), .inl (cI, 24, .inl f20))] := hD
      have g_127_0 : r_127 = f16 (10 * (i 13).toNatClampNeg + (f20 (12 * (i 13).toNatClampNeg + (i 66).toNatClampNeg)).toNatClampNeg) := g_127_0
      refine lv_i2l (v := r_127.toInt64) hx hb dX7_part_130 rfl ?_
      refine lv_topl (fun y_130 ey_130 => ?_)
      exact k_rl B hP hD hS dX7_part_131 () [3, 0, 1, 4, 2, 5] rfl rfl (Nat.le_of_ble_eq_true rfl) (Nat.le_of_ble_eq_true rfl) (show y_130 = prt x1 x2 (envf f14 f15 f16 f19 f20 (i 13) (i 62) (i 63) (i 64) (i 65) (i 66)) from (prt_7 (show x1 = (7 : Int32) from k_eqL (by decide +kernel) c_1) ey_130 (g_127_0.trans (show _ = (envf f14 f15 f16 f19 f20 (i 13) (i 62) (i 63) (i 64) (i 65) (i 66)) 6 from (if_neg c_115).symm))))
    · have c_115 : (i 66) = (-1) := c_115
      have f_118_3 : iR (i 66) (-1) (-1) := iR_eqL c_115 f_111_2 (iR_c (n := (-1)) (a := (-1)) (b := (-1)) (by decide +kernel) (by decide +kernel)) (by decide +kernel)
      refine lv_lconst (v := 0) hx hb dX7_part_118 (by decide +kernel) ?_
      refine lv_goto (tgt := 131) hx hb dX7_part_119 (by decide) ?_
      exact k_rl B hP hD hS dX7_part_131 () [0, 1, 2, 3, 4, 5] rfl rfl (Nat.le_of_ble_eq_true rfl) (Nat.le_of_ble_eq_true rfl) (show 0 = prt x1 x2 (envf f14 f15 f16 f19 f20 (i 13) (i 62) (i 63) (i 64) (i 65) (i 66)) from (prt_7 (show x1 = (7 : Int32) from k_eqL (by decide +kernel) c_1) (prt_z (show (envf f14 f15 f16 f19 f20 (i 13) (i 62) (i 63) (i 64) (i 65) (i 66)) 6 = 0 from if_pos c_115) rfl) rfl))
  · refine lv_tableOut (tgt := 132) hx hb dX7_part_1 (by omega) (by decide +kernel) ?_
    refine lv_lconst (v := 1) hx hb dX7_part_132 (by decide +kernel) ?_
    exact k_rl B hP hD hS dX7_part_133 () [0, 1, 2, 3, 4, 5] rfl rfl (Nat.le_of_ble_eq_true rfl) (Nat.le_of_ble_eq_true rfl) (show 1 = prt x1 x2 (envf f14 f15 f16 f19 f20 (i 13) (i 62) (i 63) (i 64) (i 65) (i 66)) from (prt_d c_1))
set_option maxHeartbeats 8000000 in
set_option maxRecDepth 100000 in
theorem s_X7_reckons_v0 (l : Launch) (dC : Nat → ClassId) (dI : Nat → Nat → Nat) (cI cJ cZ cM : ClassId) (h : Nat) (r : Nat → Nat) (i : Nat → Int32) (j : Nat → Int64) (x1 : Int32) (x2 : Int32) (f14 : Nat → Int32) (f15 : Nat → Int32) (f16 : Nat → Int32) (f19 : Nat → Int32) (f20 : Nat → Int32) (f32 : Nat → Int32) (f33 : Nat → Int32) (g61 : Nat → Int64) (hx1 : iR x1 0 1600) (hx2 : iR x2 0 1600) (hI : mR i) (hf14 : aR f14 0 10) (hf15 : aR f15 0 9999) (hf20 : aR f20 0 9) (hcd : CD f32 (i 13).toNatClampNeg x1 x2) : k_Ml l yX7_reckons wsX7_reckons ({ frames := 4, cells := 0, slots := 0, locals := 106 }) (dC, dI) vwCl (tyy cI cJ cZ cM) [(h, .inr (7, oM r i j)), ((r 14), .inl (cI, 2, .inl f14)), ((r 15), .inl (cI, 20, .inl f15)), ((r 16), .inl (cI, 20, .inl f16)), ((r 19), .inl (cI, 24, .inl f19)), ((r 20), .inl (cI, 24, .inl f20)), ((r 32), .inl (cI, 3200, .inl f32)), ((r 33), .inl (cI, 3200, .inl f33)), ((r 61), .inl (cJ, 500, .inr (.inl g61)))] [.ref h, .int x1, .int x2] 0 0 (fun (u9 : SU) => [(h, .inr (7, oM r i j)), ((r 14), .inl (cI, 2, .inl f14)), ((r 15), .inl (cI, 20, .inl f15)), ((r 16), .inl (cI, 20, .inl f16)), ((r 19), .inl (cI, 24, .inl f19)), ((r 20), .inl (cI, 24, .inl f20)), ((r 32), .inl (cI, 3200, .inl f32)), ((r 33), .inl (cI, 3200, .inl f33)), ((r 61), .inl (cJ, 500, .inr (.inl (u9.2.2.2.1 0))))]) (fun (r9 : Int64) (u9 : SU) => (r9 = rkv f32 f33 (envf f14 f15 f16 f19 f20 (i 13) (i 62) (i 63) (i 64) (i 65) (i 66)) (i 13).toNatClampNeg x1 x2)) := by
  refine fun sz => k_enter (cc := cX7_reckons) (maxL := 6) (ret := some (.long)) (Qc := fun A => va_Ql (fun (r9 : Int64) (u9 : SU) => (r9 = rkv f32 f33 (envf f14 f15 f16 f19 f20 (i 13) (i 62) (i 63) (i 64) (i 65) (i 66)) (i 13).toNatClampNeg x1 x2)) (fun u => k_B (dC, dI) vwCl (tyy cI cJ cZ cM) A ((fun (u9 : SU) => [(h, .inr (7, oM r i j)), ((r 14), .inl (cI, 2, .inl f14)), ((r 15), .inl (cI, 20, .inl f15)), ((r 16), .inl (cI, 20, .inl f16)), ((r 19), .inl (cI, 24, .inl f19)), ((r 20), .inl (cI, 24, .inl f20)), ((r 32), .inl (cI, 3200, .inl f32)), ((r 33), .inl (cI, 3200, .inl f33)), ((r 61), .inl (cJ, 500, .inr (.inl (u9.2.2.2.1 0))))]) u)) A) sz (by decide +kernel) rfl (Nat.le_of_ble_eq_true rfl) (fun p e s m args below meth c A ls H locs B hP hD hS hl => ?_)
  obtain ⟨hx, hb, hml, hown, hts, hr, hlk, hnm, hK, hA, hN, hC⟩ := id B
  have hown : s.vm.findClass RX7 = some m.cls := hown
  have hl : lv_has ls 6 [(0, .ref h), (1, .int x1), (2, .int x2)] := hl
  have w_0 : (Cond.fieldLink RX7 51 "WishSeaModel" "bank" "I").before args s = true := hts _ (List.mem_of_getElem? (i := 1) rfl)
  have w_1 : (Cond.fieldLink RX7 198 "WishSeaModel" "stack" "[J").before args s = true := hts _ (List.mem_of_getElem? (i := 3) rfl)
  have w_2 : (Cond.fieldLink RX7 108 "WishSeaModel" "codeSort" "[I").before args s = true := hts _ (List.mem_of_getElem? (i := 2) rfl)
  have w_3 : (Cond.fieldLink RX7 111 "WishSeaModel" "codeValue" "[I").before args s = true := hts _ (List.mem_of_getElem? (i := 4) rfl)
  have hinX7 : ∀ w ∈ u_ws RX7 TX7 92, w ∈ wsX7_reckons := fun _ h => List.mem_cons_of_mem _ (List.mem_append_right _ h)
  refine lv_iconst (v := 0) hx hb dX7_reckons_0 (by decide +kernel) ?_
  refine lv_istore_n (lv' := [(3, .int 0), (0, .ref h), (1, .int x1), (2, .int x2)]) hx hb dX7_reckons_1 rfl hl (by decide) rfl (fun ls hl => ?_)
  refine lv_sipush (v := 1600) hx hb dX7_reckons_2 (by decide +kernel) ?_
  refine lv_aload_n hx hb dX7_reckons_5 rfl (lv_at hl 1 rfl) ?_
  have f_6_1 : iR (i 13) 0 1 := hI 13
  refine k_get (D := (dC, dI)) (ci := 7) (v := .int (i 13)) (C := RX7) (T := TX7) (N := 92) hx hb hts hinX7 hown hK hP 0 rfl rfl 13 (by decide) w_0 rfl rfl dX7_reckons_6 ?_
  refine lv_imul hx hb dX7_reckons_9 ?_
  refine lv_topi (fun y_9 ey_9 => ?_)
  have xy_9 : y_9.toInt = 1600 * (i 13).toInt := i_mul ey_9 (iR_c (n := 1600) (a := 1600) (b := 1600) (by decide +kernel) (by decide +kernel)) f_6_1 (by decide +kernel)
  have f_9_2 : iR y_9 0 1600 := iR_mul ey_9 (iR_c (n := 1600) (a := 1600) (b := 1600) (by decide +kernel) (by decide +kernel)) f_6_1 (by decide +kernel)
  refine lv_iload_n hx hb dX7_reckons_10 rfl (lv_at hl 2 rfl) ?_
  refine lv_iadd hx hb dX7_reckons_11 ?_
  refine lv_topi (fun y_11 ey_11 => ?_)
  have xy_11 : y_11.toInt = y_9.toInt + x1.toInt := i_add ey_11 f_9_2 hx1 (by decide +kernel)
  have f_11_3 : iR y_11 0 3200 := iR_add ey_11 f_9_2 hx1 (by decide +kernel)
  have J_14 : ∀ (n_14 : Nat) (j14_A8 : Nat → Int64) (j14_L3 : Int32) (j14_L4 : Int32) (hj14_L3 : iR j14_L3 0 400) (hj14_L4 : iR j14_L4 0 3200) (p14_0 : RK f32 f33 (envf f14 f15 f16 f19 f20 (i 13) (i 62) (i 63) (i 64) (i 65) (i 66)) (i 13).toNatClampNeg x1 x2 j14_L4 j14_A8 j14_L3) (hm_14 : (3200 - j14_L4.toInt).toNat < n_14) (H : Heap) (locs : List Loc) (ls : Array Slot), va_P (dC, dI) vwCl [(h, .inr (7, oM r i j)), ((r 14), .inl (cI, 2, .inl f14)), ((r 15), .inl (cI, 20, .inl f15)), ((r 16), .inl (cI, 20, .inl f16)), ((r 19), .inl (cI, 24, .inl f19)), ((r 20), .inl (cI, 24, .inl f20)), ((r 32), .inl (cI, 3200, .inl f32)), ((r 33), .inl (cI, 3200, .inl f33)), ((r 61), .inl (cJ, 500, .inr (.inl j14_A8)))] H → va_D A [(h, .inr (7, oM r i j)), ((r 14), .inl (cI, 2, .inl f14)), ((r 15), .inl (cI, 20, .inl f15)), ((r 16), .inl (cI, 20, .inl f16)), ((r 19), .inl (cI, 24, .inl f19)), ((r 20), .inl (cI, 24, .inl f20)), ((r 32), .inl (cI, 3200, .inl f32)), ((r 33), .inl (cI, 3200, .inl f33)), ((r 61), .inl (cJ, 500, .inr (.inl j14_A8)))] → va_S A s.heap H locs → lv_has ls 6 [(0, .ref h), (2, .int x2), (3, .int j14_L3), (4, .int j14_L4)] → W p l e ({ frames := 4, cells := 0, slots := 0, locals := 106 }) s m args below meth c H locs 0 0 (MQ below (va_Ql (fun (r9 : Int64) (u9 : SU) => (r9 = rkv f32 f33 (envf f14 f15 f16 f19 f20 (i 13) (i 62) (i 63) (i 64) (i 65) (i 66)) (i 13).toNatClampNeg x1 x2)) (fun u => k_B (dC, dI) vwCl (tyy cI cJ cZ cM) A ((fun (u9 : SU) => [(h, .inr (7, oM r i j)), ((r 14), .inl (cI, 2, .inl f14)), ((r 15), .inl (cI, 20, .inl f15)), ((r 16), .inl (cI, 20, .inl f16)), ((r 19), .inl (cI, 24, .inl f19)), ((r 20), .inl (cI, 24, .inl f20)), ((r 32), .inl (cI, 3200, .inl f32)), ((r 33), .inl (cI, 3200, .inl f33)), ((r 61), .inl (cJ, 500, .inr (.inl (u9.2.2.2.1 0))))]) u)) A) args s 0 0 A) (F0 m 14 ls []) := by
    intro n_14
    induction n_14 with
    | zero => intro j14_A8 j14_L3 j14_L4 hj14_L3 hj14_L4 p14_0 hm_14; exact absurd hm_14 (Nat.not_lt_zero _)
    | succ n_14 ih_14 =>
      intro j14_A8 j14_L3 j14_L4 hj14_L3 hj14_L4 p14_0 hm_14 H locs ls hP hD hS hl
      refine lv_iload hx hb dX7_reckons_14 (lv_at hl 3 rfl) ?_
      refine lv_sipush (v := 1600) hx hb dX7_reckons_16 (by decide +kernel) ?_
      refine lv_aload_n hx hb dX7_reckons_19 rfl (lv_at hl 0 rfl) ?_
      refine k_get (D := (dC, dI)) (ci := 7) (v := .int (i 13)) (C := RX7) (T := TX7) (N := 92) hx hb hts hinX7 hown hK hP 0 rfl rfl 13 (by decide) w_0 rfl rfl dX7_reckons_20 ?_
      refine lv_imul hx hb dX7_reckons_23 ?_
      refine lv_topi (fun y_23 ey_23 => ?_)
      have xy_23 : y_23.toInt = 1600 * (i 13).toInt := i_mul ey_23 (iR_c (n := 1600) (a := 1600) (b := 1600) (by decide +kernel) (by decide +kernel)) f_6_1 (by decide +kernel)
      have f_23_1 : iR y_23 0 1600 := iR_mul ey_23 (iR_c (n := 1600) (a := 1600) (b := 1600) (by decide +kernel) (by decide +kernel)) f_6_1 (by decide +kernel)
      refine lv_iload_n hx hb dX7_reckons_24 rfl (lv_at hl 1 rfl) ?_
      refine lv_iadd hx hb dX7_reckons_25 ?_
      refine lv_topi (fun y_25 ey_25 => ?_)
      have xy_25 : y_25.toInt = y_23.toInt + x2.toInt := i_add ey_25 f_23_1 hx2 (by decide +kernel)
      have f_25_2 : iR y_25 0 3200 := iR_add ey_25 f_23_1 hx2 (by decide +kernel)
      refine lv_icmp_ge (tgt := 134) hx hb dX7_reckons_26 (by decide) (fun c_26 => ?_) (fun c_26 => ?_)
      · have c_26 : y_25 ≤ j14_L4 := c_26
        refine lv_aload_n hx hb dX7_reckons_134 rfl (lv_at hl 0 rfl) ?_
        refine k_get (D := (dC, dI)) (ci := 7) (v := .ref (r 61)) (C := RX7) (T := TX7) (N := 92) hx hb hts hinX7 hown hK hP 0 rfl rfl 61 (by decide) w_1 rfl rfl dX7_reckons_135 ?_
        refine lv_iconst (v := 0) hx hb dX7_reckons_138 (by decide +kernel) ?_
        refine k_lald (v := (j14_A8 0)) hx hb hK hP 8 1 0 rfl rfl rfl (Nat.le_of_ble_eq_true rfl) (Nat.le_of_ble_eq_true rfl) rfl dX7_reckons_139 ?_
        exact k_rl B hP hD hS dX7_reckons_140 ((fun _ => 0), (fun _ => 0), (fun _ => (fun _ => 0)), (fun k9 => match k9 with | 0 => j14_A8 | _ => (fun _ => 0)), (fun _ => 0)) [0, 1, 2, 3, 4, 5, 6, 7, 8] rfl rfl (Nat.le_of_ble_eq_true rfl) (Nat.le_of_ble_eq_true rfl) (show (j14_A8 0) = rkv f32 f33 (envf f14 f15 f16 f19 f20 (i 13) (i 62) (i 63) (i 64) (i 65) (i 66)) (i 13).toNatClampNeg x1 x2 from (RK_end p14_0 hcd (by have c0 := iR_cn f_6_1 (by decide +kernel); have z := i_ti_le rfl rfl c_26; omega)))
      · have c_26 : j14_L4 < y_25 := i_nle c_26
        have f_29_3 : iR j14_L4 0 3199 := iR_ltL c_26 hj14_L4 f_25_2 (by decide +kernel)
        have f_29_4 : iR y_25 1 3200 := iR_ltR c_26 hj14_L4 f_25_2 (by decide +kernel)
        refine lv_aload_n hx hb dX7_reckons_29 rfl (lv_at hl 0 rfl) ?_
        refine k_get (D := (dC, dI)) (ci := 7) (v := .ref (r 32)) (C := RX7) (T := TX7) (N := 92) hx hb hts hinX7 hown hK hP 0 rfl rfl 32 (by decide) w_2 rfl rfl dX7_reckons_30 ?_
        refine lv_iload hx hb dX7_reckons_33 (lv_at hl 3 rfl) ?_
        refine va_iald hx hb hK hP 6 0 rfl rfl (iR_vp f_29_3 (by decide +kernel)) dX7_reckons_35 ?_
        refine lv_istore (lv' := [(5, .int (f32 j14_L4.toNatClampNeg)), (0, .ref h), (2, .int x2), (3, .int j14_L3), (4, .int j14_L4)]) hx hb dX7_reckons_36 hl (by decide) rfl (fun ls hl => ?_)
        refine lv_iload hx hb dX7_reckons_38 (lv_at hl 0 rfl) ?_
        refine lv_bipush (v := 9) hx hb dX7_reckons_40 (by decide +kernel) ?_
        refine lv_icmp_gt (tgt := 70) hx hb dX7_reckons_42 (by decide) (fun c_42 => ?_) (fun c_42 => ?_)
        · have c_42 : 9 < (f32 j14_L4.toNatClampNeg) := c_42
          have f_70_5 : iR (f32 j14_L4.toNatClampNeg) 10 2147483647 := iR_ltR c_42 (iR_c (n := 9) (a := 9) (b := 9) (by decide +kernel) (by decide +kernel)) (iR_top _) (by decide +kernel)
          refine lv_iload hx hb dX7_reckons_70 (lv_at hl 0 rfl) ?_
          refine lv_bipush (v := 22) hx hb dX7_reckons_72 (by decide +kernel) ?_
          refine lv_icmp_ne (tgt := 98) hx hb dX7_reckons_74 (by decide) (fun c_74 => ?_) (fun c_74 => ?_)
          · have c_74 : ¬ (f32 j14_L4.toNatClampNeg) = 22 := c_74
            have ec_rk : j14_L4.toInt.toNat = j14_L4.toNatClampNeg := (by have c0 := iR_cn f_29_3 (by decide +kernel); omega)
            obtain ⟨rs_rk, rk_rk⟩ := RK_two p14_0 (by have c0 := iR_cn f_6_1 (by decide +kernel); have b1 : 0 ≤ (i 13).toInt ∧ (i 13).toInt ≤ 1 := f_6_1; omega) (by have z1 : 0 ≤ x1.toInt ∧ x1.toInt ≤ 1600 := hx1; omega) (by have z1 : 0 ≤ x1.toInt ∧ x1.toInt ≤ 1600 := hx1; have z2 : 0 ≤ x2.toInt ∧ x2.toInt ≤ 1600 := hx2; have z := hcd.2.1; omega) (by have c0 := iR_cn f_6_1 (by decide +kernel); have z := i_ti_lt rfl rfl c_26; omega) (by rw [ec_rk]; exact i_ti_lt (by decide) rfl c_42) (by rw [ec_rk]; exact i_ti_ne rfl (by decide) c_74)
            have f_98_6 : iR j14_L3 2 400 := (by have z := rs_rk; show 2 ≤ j14_L3.toInt ∧ j14_L3.toInt ≤ 400; omega)
            obtain ⟨y_98, ey_98⟩ : ∃ y : Int32, y = j14_L3 + (-1) := ⟨_, rfl⟩
            refine lv_iinc (v := y_98) (lv' := [(3, .int y_98), (5, .int (f32 j14_L4.toNatClampNeg)), (0, .ref h), (2, .int x2), (4, .int j14_L4)]) hx hb dX7_reckons_98 hl (k := 3) rfl ey_98.symm (by decide) rfl (fun ls hl => ?_)
            have f_98_7 : iR y_98 1 399 := iR_add ey_98 f_98_6 (iR_c (n := (-1)) (a := (-1)) (b := (-1)) (by decide +kernel) (by decide +kernel)) (by decide +kernel)
            have xy_98 : y_98.toInt = j14_L3.toInt + (-1) := i_add ey_98 f_98_6 (iR_c (n := (-1)) (a := (-1)) (b := (-1)) (by decide +kernel) (by decide +kernel)) (by decide +kernel)
            refine lv_aload_n hx hb dX7_reckons_101 rfl (lv_at hl 2 rfl) ?_
            refine k_get (D := (dC, dI)) (ci := 7) (v := .ref (r 61)) (C := RX7) (T := TX7) (N := 92) hx hb hts hinX7 hown hK hP 0 rfl rfl 61 (by decide) w_1 rfl rfl dX7_reckons_102 ?_
            refine lv_iload_n hx hb dX7_reckons_105 rfl (lv_at hl 0 rfl) ?_
            refine lv_iconst (v := 1) hx hb dX7_reckons_106 (by decide +kernel) ?_
            refine lv_isub hx hb dX7_reckons_107 ?_
            refine lv_topi (fun y_107 ey_107 => ?_)
            have xy_107 : y_107.toInt = y_98.toInt - 1 := i_sub ey_107 f_98_7 (iR_c (n := 1) (a := 1) (b := 1) (by decide +kernel) (by decide +kernel)) (by decide +kernel)
            have f_107_8 : iR y_107 0 398 := iR_sub ey_107 f_98_7 (iR_c (n := 1) (a := 1) (b := 1) (by decide +kernel) (by decide +kernel)) (by decide +kernel)
            refine lv_iload hx hb dX7_reckons_108 (lv_at hl 1 rfl) ?_
            refine lv_aload_n hx hb dX7_reckons_110 rfl (lv_at hl 2 rfl) ?_
            refine k_get (D := (dC, dI)) (ci := 7) (v := .ref (r 61)) (C := RX7) (T := TX7) (N := 92) hx hb hts hinX7 hown hK hP 0 rfl rfl 61 (by decide) w_1 rfl rfl dX7_reckons_111 ?_
            refine lv_iload_n hx hb dX7_reckons_114 rfl (lv_at hl 0 rfl) ?_
            refine lv_iconst (v := 1) hx hb dX7_reckons_115 (by decide +kernel) ?_
            refine lv_isub hx hb dX7_reckons_116 ?_
            refine lv_topi (fun y_116 ey_116 => ?_)
            have xy_116 : y_116.toInt = y_98.toInt - 1 := i_sub ey_116 f_98_7 (iR_c (n := 1) (a := 1) (b := 1) (by decide +kernel) (by decide +kernel)) (by decide +kernel)
            have f_116_9 : iR y_116 0 398 := iR_sub ey_116 f_98_7 (iR_c (n := 1) (a := 1) (b := 1) (by decide +kernel) (by decide +kernel)) (by decide +kernel)
            refine va_lald hx hb hK hP 8 1 rfl rfl (iR_vp f_116_9 (by decide +kernel)) dX7_reckons_117 ?_
            refine lv_aload_n hx hb dX7_reckons_118 rfl (lv_at hl 2 rfl) ?_
            refine k_get (D := (dC, dI)) (ci := 7) (v := .ref (r 61)) (C := RX7) (T := TX7) (N := 92) hx hb hts hinX7 hown hK hP 0 rfl rfl 61 (by decide) w_1 rfl rfl dX7_reckons_119 ?_
            refine lv_iload_n hx hb dX7_reckons_122 rfl (lv_at hl 0 rfl) ?_
            refine va_lald hx hb hK hP 8 1 rfl rfl (iR_vp f_98_7 (by decide +kernel)) dX7_reckons_123 ?_
            refine k_cl (wc := []) (wr := [(h, .inr (7, oM r i j)), ((r 14), .inl (cI, 2, .inl f14)), ((r 15), .inl (cI, 20, .inl f15)), ((r 16), .inl (cI, 20, .inl f16)), ((r 19), .inl (cI, 24, .inl f19)), ((r 20), .inl (cI, 24, .inl f20)), ((r 32), .inl (cI, 3200, .inl f32)), ((r 33), .inl (cI, 3200, .inl f33)), ((r 61), .inl (cJ, 500, .inr (.inl j14_A8)))]) (fun hPc hDc hFc => va_runS (As := [.int (f32 j14_L4.toNatClampNeg), .long (j14_A8 y_116.toNatClampNeg), .long (j14_A8 y_98.toNatClampNeg)]) (rest := [.int y_107, .ref (r 61)]) ⟨hx, hb, hml, hown, hts⟩ (s_X7_two_v0 l dC dI cI cJ cZ cM (f32 j14_L4.toNatClampNeg) (j14_A8 y_116.toNatClampNeg) (j14_A8 y_98.toNatClampNeg) H.size) (va_cwS 3 hts gX7_reckons_X7_two rfl rfl rfl (by decide +kernel) ⟨(Nat.le_of_ble_eq_true rfl), (Nat.le_of_ble_eq_true rfl)⟩) (k_pS hPc hDc hK hN hC hS hFc) rfl rfl hl.1 rfl (lv_room (Nat.le_of_ble_eq_true rfl)) dX7_reckons_124 ⟨(Nat.le_of_ble_eq_true rfl), (Nat.le_of_ble_eq_true rfl)⟩) hP hD hS hA [] [0, 1, 2, 3, 4, 5, 6, 7, 8] rfl rfl rfl rfl (by decide) (fun _ => rfl) 0 0 rfl rfl (fun r_124 u_124 H locs hw hP hD hS => ?_)
            have g_124_0 := hw
            have hP : va_P (dC, dI) vwCl [(h, .inr (7, oM r i j)), ((r 14), .inl (cI, 2, .inl f14)), ((r 15), .inl (cI, 20, .inl f15)), ((r 16), .inl (cI, 20, .inl f16)), ((r 19), .inl (cI, 24, .inl f19)), ((r 20), .inl (cI, 24, .inl f20)), ((r 32), .inl (cI, 3200, .inl f32)), ((r 33), .inl (cI, 3200, .inl f33)), ((r 61), .inl (cJ, 500, .inr (.inl j14_A8)))] H := hP
            have hD : va_D A [(h, .inr (7, oM r i j)), ((r 14), .inl (cI, 2, .inl f14)), ((r 15), .inl (cI, 20, .inl f15)), ((r 16), .inl (cI, 20, .inl f16)), ((r 19), .inl (cI, 24, .inl f19)), ((r 20), .inl (cI, 24, .inl f20)), ((r 32), .inl (cI, 3200, .inl f32)), ((r 33), .inl (cI, 3200, .inl f33)), ((r 61), .inl (cJ, 500, .inr (.inl j14_A8)))] := hD
            have g_124_0 : r_124 = twf (f32 j14_L4.toNatClampNeg) (j14_A8 y_116.toNatClampNeg) (j14_A8 y_98.toNatClampNeg) := g_124_0
            refine s_last (g := (vp_updL j14_A8 y_107.toNatClampNeg r_124)) (ws' := [(h, .inr (7, oM r i j)), ((r 14), .inl (cI, 2, .inl f14)), ((r 15), .inl (cI, 20, .inl f15)), ((r 16), .inl (cI, 20, .inl f16)), ((r 19), .inl (cI, 24, .inl f19)), ((r 20), .inl (cI, 24, .inl f20)), ((r 32), .inl (cI, 3200, .inl f32)), ((r 33), .inl (cI, 3200, .inl f33)), ((r 61), .inl (cJ, 500, .inr (.inl (vp_updL j14_A8 y_107.toNatClampNeg r_124))))]) hx hb hK hP hD hS 8 1 rfl rfl (iR_vp f_107_8 (by decide +kernel)) rfl rfl dX7_reckons_127 (fun H locs hP hD hS => ?_)
            obtain ⟨y_128p127, ey_128p127⟩ : ∃ y : Int32, y = j14_L4 + 1 := ⟨_, rfl⟩
            refine lv_iinc (v := y_128p127) (lv' := [(4, .int y_128p127), (3, .int y_98), (5, .int (f32 j14_L4.toNatClampNeg)), (0, .ref h), (2, .int x2)]) hx hb dX7_reckons_128 hl (k := 4) rfl ey_128p127.symm (by decide) rfl (fun ls hl => ?_)
            have f_128p127_10 : iR y_128p127 1 3200 := iR_add ey_128p127 f_29_3 (iR_c (n := 1) (a := 1) (b := 1) (by decide +kernel) (by decide +kernel)) (by decide +kernel)
            have xy_128p127 : y_128p127.toInt = j14_L4.toInt + 1 := i_add ey_128p127 f_29_3 (iR_c (n := 1) (a := 1) (b := 1) (by decide +kernel) (by decide +kernel)) (by decide +kernel)
            refine lv_goto (tgt := 14) hx hb dX7_reckons_131 (by decide) ?_
            exact ih_14 (vp_updL j14_A8 y_107.toNatClampNeg r_124) y_98 y_128p127 (iR_w f_98_7 (by decide +kernel)) (iR_w f_128p127_10 (by decide +kernel)) (show RK f32 f33 (envf f14 f15 f16 f19 f20 (i 13) (i 62) (i 63) (i 64) (i 65) (i 66)) (i 13).toNatClampNeg x1 x2 y_128p127 (vp_updL j14_A8 y_107.toNatClampNeg r_124) y_98 from (by have z := rk_rk y_128p127 y_98 r_124 ey_128p127 (by omega) (by rw [ec_rk, show (j14_L3.toInt - 2).toNat = y_116.toNatClampNeg by have c7 := iR_cn f_116_9 (by decide +kernel); omega, show (j14_L3.toInt - 1).toNat = y_98.toNatClampNeg by have c7 := iR_cn f_98_7 (by decide +kernel); omega]; exact g_124_0); rw [show (j14_L3.toInt - 2).toNat = y_107.toNatClampNeg by have c9 := iR_cn f_107_8 (by decide +kernel); omega] at z; exact z)) (m_up (B := 3200) hm_14 ey_128p127 f_29_3 (by decide +kernel)) H locs ls hP hD hS (lv_sub hl [3, 4, 1, 0] rfl)
          · have c_74 : (f32 j14_L4.toNatClampNeg) = 22 := c_74
            have f_77_6 : iR (f32 j14_L4.toNatClampNeg) 22 22 := iR_eqL c_74 f_70_5 (iR_c (n := 22) (a := 22) (b := 22) (by decide +kernel) (by decide +kernel)) (by decide +kernel)
            have ec_rk : j14_L4.toInt.toNat = j14_L4.toNatClampNeg := (by have c0 := iR_cn f_29_3 (by decide +kernel); omega)
            obtain ⟨rs_rk, rk_rk⟩ := RK_not p14_0 (by have c0 := iR_cn f_6_1 (by decide +kernel); have b1 : 0 ≤ (i 13).toInt ∧ (i 13).toInt ≤ 1 := f_6_1; omega) (by have z1 : 0 ≤ x1.toInt ∧ x1.toInt ≤ 1600 := hx1; omega) (by have z1 : 0 ≤ x1.toInt ∧ x1.toInt ≤ 1600 := hx1; have z2 : 0 ≤ x2.toInt ∧ x2.toInt ≤ 1600 := hx2; have z := hcd.2.1; omega) (by have c0 := iR_cn f_6_1 (by decide +kernel); have z := i_ti_lt rfl rfl c_26; omega) (by rw [ec_rk]; exact i_ti_eq rfl (by decide) c_74)
            have f_77_7 : iR j14_L3 1 400 := (by have z := rs_rk; show 1 ≤ j14_L3.toInt ∧ j14_L3.toInt ≤ 400; omega)
            refine lv_aload_n hx hb dX7_reckons_77 rfl (lv_at hl 1 rfl) ?_
            refine k_get (D := (dC, dI)) (ci := 7) (v := .ref (r 61)) (C := RX7) (T := TX7) (N := 92) hx hb hts hinX7 hown hK hP 0 rfl rfl 61 (by decide) w_1 rfl rfl dX7_reckons_78 ?_
            refine lv_iload_n hx hb dX7_reckons_81 rfl (lv_at hl 3 rfl) ?_
            refine lv_iconst (v := 1) hx hb dX7_reckons_82 (by decide +kernel) ?_
            refine lv_isub hx hb dX7_reckons_83 ?_
            refine lv_topi (fun y_83 ey_83 => ?_)
            have xy_83 : y_83.toInt = j14_L3.toInt - 1 := i_sub ey_83 f_77_7 (iR_c (n := 1) (a := 1) (b := 1) (by decide +kernel) (by decide +kernel)) (by decide +kernel)
            have f_83_8 : iR y_83 0 399 := iR_sub ey_83 f_77_7 (iR_c (n := 1) (a := 1) (b := 1) (by decide +kernel) (by decide +kernel)) (by decide +kernel)
            refine lv_lconst (v := 1) hx hb dX7_reckons_84 (by decide +kernel) ?_
            refine lv_aload_n hx hb dX7_reckons_85 rfl (lv_at hl 1 rfl) ?_
            refine k_get (D := (dC, dI)) (ci := 7) (v := .ref (r 61)) (C := RX7) (T := TX7) (N := 92) hx hb hts hinX7 hown hK hP 0 rfl rfl 61 (by decide) w_1 rfl rfl dX7_reckons_86 ?_
            refine lv_iload_n hx hb dX7_reckons_89 rfl (lv_at hl 3 rfl) ?_
            refine lv_iconst (v := 1) hx hb dX7_reckons_90 (by decide +kernel) ?_
            refine lv_isub hx hb dX7_reckons_91 ?_
            refine lv_topi (fun y_91 ey_91 => ?_)
            have xy_91 : y_91.toInt = j14_L3.toInt - 1 := i_sub ey_91 f_77_7 (iR_c (n := 1) (a := 1) (b := 1) (by decide +kernel) (by decide +kernel)) (by decide +kernel)
            have f_91_9 : iR y_91 0 399 := iR_sub ey_91 f_77_7 (iR_c (n := 1) (a := 1) (b := 1) (by decide +kernel) (by decide +kernel)) (by decide +kernel)
            refine va_lald hx hb hK hP 8 1 rfl rfl (iR_vp f_91_9 (by decide +kernel)) dX7_reckons_92 ?_
            refine lv_lsub hx hb dX7_reckons_93 ?_
            refine lv_topl (fun y_93 ey_93 => ?_)
            refine s_last (g := (vp_updL j14_A8 y_83.toNatClampNeg y_93)) (ws' := [(h, .inr (7, oM r i j)), ((r 14), .inl (cI, 2, .inl f14)), ((r 15), .inl (cI, 20, .inl f15)), ((r 16), .inl (cI, 20, .inl f16)), ((r 19), .inl (cI, 24, .inl f19)), ((r 20), .inl (cI, 24, .inl f20)), ((r 32), .inl (cI, 3200, .inl f32)), ((r 33), .inl (cI, 3200, .inl f33)), ((r 61), .inl (cJ, 500, .inr (.inl (vp_updL j14_A8 y_83.toNatClampNeg y_93))))]) hx hb hK hP hD hS 8 1 rfl rfl (iR_vp f_83_8 (by decide +kernel)) rfl rfl dX7_reckons_94 (fun H locs hP hD hS => ?_)
            refine lv_goto (tgt := 128) hx hb dX7_reckons_95 (by decide) ?_
            obtain ⟨y_128p95, ey_128p95⟩ : ∃ y : Int32, y = j14_L4 + 1 := ⟨_, rfl⟩
            refine lv_iinc (v := y_128p95) (lv' := [(4, .int y_128p95), (5, .int (f32 j14_L4.toNatClampNeg)), (0, .ref h), (2, .int x2), (3, .int j14_L3)]) hx hb dX7_reckons_128 hl (k := 4) rfl ey_128p95.symm (by decide) rfl (fun ls hl => ?_)
            have f_128p95_10 : iR y_128p95 1 3200 := iR_add ey_128p95 f_29_3 (iR_c (n := 1) (a := 1) (b := 1) (by decide +kernel) (by decide +kernel)) (by decide +kernel)
            have xy_128p95 : y_128p95.toInt = j14_L4.toInt + 1 := i_add ey_128p95 f_29_3 (iR_c (n := 1) (a := 1) (b := 1) (by decide +kernel) (by decide +kernel)) (by decide +kernel)
            refine lv_goto (tgt := 14) hx hb dX7_reckons_131 (by decide) ?_
            exact ih_14 (vp_updL j14_A8 y_83.toNatClampNeg y_93) j14_L3 y_128p95 (iR_w f_77_7 (by decide +kernel)) (iR_w f_128p95_10 (by decide +kernel)) (show RK f32 f33 (envf f14 f15 f16 f19 f20 (i 13) (i 62) (i 63) (i 64) (i 65) (i 66)) (i 13).toNatClampNeg x1 x2 y_128p95 (vp_updL j14_A8 y_83.toNatClampNeg y_93) j14_L3 from (by have z := rk_rk y_128p95 y_93 ey_128p95 (by rw [show (j14_L3.toInt - 1).toNat = y_91.toNatClampNeg by have c7 := iR_cn f_91_9 (by decide +kernel); omega]; exact ey_93); rw [show (j14_L3.toInt - 1).toNat = y_83.toNatClampNeg by have c9 := iR_cn f_83_8 (by decide +kernel); omega] at z; exact z)) (m_up (B := 3200) hm_14 ey_128p95 f_29_3 (by decide +kernel)) H locs ls hP hD hS (lv_sub hl [2, 3, 4, 0] rfl)
        · have c_42 : (f32 j14_L4.toNatClampNeg) ≤ 9 := i_nlt c_42
          have f_45_5 : iR (f32 j14_L4.toNatClampNeg) (-2147483648) 9 := iR_leL c_42 (iR_top _) (iR_c (n := 9) (a := 9) (b := 9) (by decide +kernel) (by decide +kernel)) (by decide +kernel)
          have ec_rk : j14_L4.toInt.toNat = j14_L4.toNatClampNeg := (by have c0 := iR_cn f_29_3 (by decide +kernel); omega)
          obtain ⟨rs_rk, rk_rk⟩ := RK_part p14_0 (by have c0 := iR_cn f_6_1 (by decide +kernel); have b1 : 0 ≤ (i 13).toInt ∧ (i 13).toInt ≤ 1 := f_6_1; omega) (by have z1 : 0 ≤ x1.toInt ∧ x1.toInt ≤ 1600 := hx1; omega) (by have z1 : 0 ≤ x1.toInt ∧ x1.toInt ≤ 1600 := hx1; have z2 : 0 ≤ x2.toInt ∧ x2.toInt ≤ 1600 := hx2; have z := hcd.2.1; omega) (by have c0 := iR_cn f_6_1 (by decide +kernel); have z := i_ti_lt rfl rfl c_26; omega) (by rw [ec_rk]; exact i_ti_le rfl (by decide) c_42)
          have f_45_6 : iR j14_L3 0 399 := (by have z := rs_rk; show 0 ≤ j14_L3.toInt ∧ j14_L3.toInt ≤ 399; omega)
          refine lv_aload_n hx hb dX7_reckons_45 rfl (lv_at hl 1 rfl) ?_
          refine k_get (D := (dC, dI)) (ci := 7) (v := .ref (r 61)) (C := RX7) (T := TX7) (N := 92) hx hb hts hinX7 hown hK hP 0 rfl rfl 61 (by decide) w_1 rfl rfl dX7_reckons_46 ?_
          refine lv_iload_n hx hb dX7_reckons_49 rfl (lv_at hl 3 rfl) ?_
          refine lv_aload_n hx hb dX7_reckons_50 rfl (lv_at hl 1 rfl) ?_
          refine lv_iload hx hb dX7_reckons_51 (lv_at hl 0 rfl) ?_
          refine lv_aload_n hx hb dX7_reckons_53 rfl (lv_at hl 1 rfl) ?_
          refine k_get (D := (dC, dI)) (ci := 7) (v := .ref (r 33)) (C := RX7) (T := TX7) (N := 92) hx hb hts hinX7 hown hK hP 0 rfl rfl 33 (by decide) w_3 rfl rfl dX7_reckons_54 ?_
          refine lv_iload hx hb dX7_reckons_57 (lv_at hl 4 rfl) ?_
          refine va_iald hx hb hK hP 7 0 rfl rfl (iR_vp f_29_3 (by decide +kernel)) dX7_reckons_59 ?_
          refine k_cl (wc := [(h, .inr (7, oM r i j)), ((r 14), .inl (cI, 2, .inl f14)), ((r 15), .inl (cI, 20, .inl f15)), ((r 16), .inl (cI, 20, .inl f16)), ((r 19), .inl (cI, 24, .inl f19)), ((r 20), .inl (cI, 24, .inl f20))]) (wr := [((r 32), .inl (cI, 3200, .inl f32)), ((r 33), .inl (cI, 3200, .inl f33)), ((r 61), .inl (cJ, 500, .inr (.inl j14_A8)))]) (fun hPc hDc hFc => va_runV (As := [.int (f32 j14_L4.toNatClampNeg), .int (f33 j14_L4.toNatClampNeg)]) (rest := [.int j14_L3, .ref (r 61)]) ⟨hx, hb, hml, hown, hts⟩ (s_X7_part_v0 l dC dI cI cJ cZ cM h r i j (f32 j14_L4.toNatClampNeg) (f33 j14_L4.toNatClampNeg) f14 f15 f16 f19 f20 hI hf14 hf15 hf20 H.size) (cwV 2 hts gX7_reckons_X7_part rfl rfl rfl (by decide +kernel) ⟨(Nat.le_of_ble_eq_true rfl), (Nat.le_of_ble_eq_true rfl)⟩) (k_pV hPc hDc hK hN hC hS hFc hP (q0 := 0) (ci := 7) rfl rfl) rfl rfl hl.1 rfl (lv_room (Nat.le_of_ble_eq_true rfl)) dX7_reckons_60 ⟨(Nat.le_of_ble_eq_true rfl), (Nat.le_of_ble_eq_true rfl)⟩) hP hD hS hA [0, 1, 2, 3, 4, 5] [6, 7, 8] rfl rfl rfl rfl (by decide) (fun _ => rfl) 0 0 rfl rfl (fun r_60 u_60 H locs hw hP hD hS => ?_)
          have g_60_0 := hw
          have hP : va_P (dC, dI) vwCl [((r 32), .inl (cI, 3200, .inl f32)), ((r 33), .inl (cI, 3200, .inl f33)), ((r 61), .inl (cJ, 500, .inr (.inl j14_A8))), (h, .inr (7, oM r i j)), ((r 14), .inl (cI, 2, .inl f14)), ((r 15), .inl (cI, 20, .inl f15)), ((r 16), .inl (cI, 20, .inl f16)), ((r 19), .inl (cI, 24, .inl f19)), ((r 20), .inl (cI, 24, .inl f20))] H := hP
          have hD : va_D A [((r 32), .inl (cI, 3200, .inl f32)), ((r 33), .inl (cI, 3200, .inl f33)), ((r 61), .inl (cJ, 500, .inr (.inl j14_A8))), (h, .inr (7, oM r i j)), ((r 14), .inl (cI, 2, .inl f14)), ((r 15), .inl (cI, 20, .inl f15)), ((r 16), .inl (cI, 20, .inl f16)), ((r 19), .inl (cI, 24, .inl f19)), ((r 20), .inl (cI, 24, .inl f20))] := hD
          have g_60_0 : r_60 = prt (f32 j14_L4.toNatClampNeg) (f33 j14_L4.toNatClampNeg) (envf f14 f15 f16 f19 f20 (i 13) (i 62) (i 63) (i 64) (i 65) (i 66)) := g_60_0
          refine s_last (g := (vp_updL j14_A8 j14_L3.toNatClampNeg r_60)) (ws' := [((r 32), .inl (cI, 3200, .inl f32)), ((r 33), .inl (cI, 3200, .inl f33)), ((r 61), .inl (cJ, 500, .inr (.inl (vp_updL j14_A8 j14_L3.toNatClampNeg r_60)))), (h, .inr (7, oM r i j)), ((r 14), .inl (cI, 2, .inl f14)), ((r 15), .inl (cI, 20, .inl f15)), ((r 16), .inl (cI, 20, .inl f16)), ((r 19), .inl (cI, 24, .inl f19)), ((r 20), .inl (cI, 24, .inl f20))]) hx hb hK hP hD hS 2 1 rfl rfl (iR_vp f_45_6 (by decide +kernel)) rfl rfl dX7_reckons_63 (fun H locs hP hD hS => ?_)
          obtain ⟨y_64, ey_64⟩ : ∃ y : Int32, y = j14_L3 + 1 := ⟨_, rfl⟩
          refine lv_iinc (v := y_64) (lv' := [(3, .int y_64), (5, .int (f32 j14_L4.toNatClampNeg)), (0, .ref h), (2, .int x2), (4, .int j14_L4)]) hx hb dX7_reckons_64 hl (k := 3) rfl ey_64.symm (by decide) rfl (fun ls hl => ?_)
          have f_64_7 : iR y_64 1 400 := iR_add ey_64 f_45_6 (iR_c (n := 1) (a := 1) (b := 1) (by decide +kernel) (by decide +kernel)) (by decide +kernel)
          have xy_64 : y_64.toInt = j14_L3.toInt + 1 := i_add ey_64 f_45_6 (iR_c (n := 1) (a := 1) (b := 1) (by decide +kernel) (by decide +kernel)) (by decide +kernel)
          refine lv_goto (tgt := 128) hx hb dX7_reckons_67 (by decide) ?_
          obtain ⟨y_128p67, ey_128p67⟩ : ∃ y : Int32, y = j14_L4 + 1 := ⟨_, rfl⟩
          refine lv_iinc (v := y_128p67) (lv' := [(4, .int y_128p67), (3, .int y_64), (5, .int (f32 j14_L4.toNatClampNeg)), (0, .ref h), (2, .int x2)]) hx hb dX7_reckons_128 hl (k := 4) rfl ey_128p67.symm (by decide) rfl (fun ls hl => ?_)
          have f_128p67_8 : iR y_128p67 1 3200 := iR_add ey_128p67 f_29_3 (iR_c (n := 1) (a := 1) (b := 1) (by decide +kernel) (by decide +kernel)) (by decide +kernel)
          have xy_128p67 : y_128p67.toInt = j14_L4.toInt + 1 := i_add ey_128p67 f_29_3 (iR_c (n := 1) (a := 1) (b := 1) (by decide +kernel) (by decide +kernel)) (by decide +kernel)
          refine lv_goto (tgt := 14) hx hb dX7_reckons_131 (by decide) ?_
          exact ih_14 (vp_updL j14_A8 j14_L3.toNatClampNeg r_60) y_64 y_128p67 (iR_w f_64_7 (by decide +kernel)) (iR_w f_128p67_8 (by decide +kernel)) (show RK f32 f33 (envf f14 f15 f16 f19 f20 (i 13) (i 62) (i 63) (i 64) (i 65) (i 66)) (i 13).toNatClampNeg x1 x2 y_128p67 (vp_updL j14_A8 j14_L3.toNatClampNeg r_60) y_64 from (by have z := rk_rk y_128p67 y_64 r_60 ey_128p67 ey_64 (by rw [ec_rk]; exact g_60_0); rw [show j14_L3.toInt.toNat = j14_L3.toNatClampNeg by have c8 := iR_cn f_45_6 (by decide +kernel); omega] at z; exact z)) (m_up (B := 3200) hm_14 ey_128p67 f_29_3 (by decide +kernel)) H locs ls (hP.sub [3, 4, 5, 6, 7, 8, 0, 1, 2] rfl) (hD.sub [3, 4, 5, 6, 7, 8, 0, 1, 2] (by decide +kernel) rfl) hS (lv_sub hl [3, 4, 1, 0] rfl)
  refine lv_istore (lv' := [(4, .int y_11), (3, .int 0), (0, .ref h), (1, .int x1), (2, .int x2)]) hx hb dX7_reckons_12 hl (by decide) rfl (fun ls hl => ?_)
  exact J_14 _ g61 0 y_11 (iR_c (n := 0) (a := 0) (b := 400) (by decide +kernel) (by decide +kernel)) f_11_3 (show RK f32 f33 (envf f14 f15 f16 f19 f20 (i 13) (i 62) (i 63) (i 64) (i 65) (i 66)) (i 13).toNatClampNeg x1 x2 y_11 g61 0 from (RK_0 hcd (by have c0 := iR_cn f_6_1 (by decide +kernel); omega))) (Nat.lt_succ_self _) H locs ls hP hD hS (lv_sub hl [2, 4, 1, 0] rfl)
set_option maxHeartbeats 8000000 in
set_option maxRecDepth 100000 in
theorem s_X7_between_v0 (l : Launch) (dC : Nat → ClassId) (dI : Nat → Nat → Nat) (cI cJ cZ cM : ClassId) (x0 : Int64)  : k_Mi l yX7_between wsX7_between ({ frames := 1, cells := 0, slots := 0, locals := 40 }) (dC, dI) vwCl (tyy cI cJ cZ cM) [] [.long x0, .int 0, .int 99] 0 0 (fun (u9 : Unit) => []) (fun (r9 : Int32) (u9 : Unit) => (iR r9 0 99) ∧ (r9 = btw x0 0 99)) := by
  refine fun sz => k_enter (cc := cX7_between) (maxL := 4) (ret := some (.int)) (Qc := fun A => va_Qi (fun (r9 : Int32) (u9 : Unit) => (iR r9 0 99) ∧ (r9 = btw x0 0 99)) (fun u => k_B (dC, dI) vwCl (tyy cI cJ cZ cM) A ((fun (u9 : Unit) => []) u)) A) sz (by decide +kernel) rfl (Nat.le_of_ble_eq_true rfl) (fun p e s m args below meth c A ls H locs B hP hD hS hl => ?_)
  obtain ⟨hx, hb, hml, hown, hts, hr, hlk, hnm, hK, hA, hN, hC⟩ := id B
  have hown : s.vm.findClass RX7 = some m.cls := hown
  have hl : lv_has ls 4 [(0, .long x0), (2, .int 0), (3, .int 99)] := hl
  refine lv_lload_n hx hb dX7_between_0 rfl (lv_at hl 0 rfl) ?_
  refine lv_iload_n hx hb dX7_between_1 rfl (lv_at hl 1 rfl) ?_
  refine lv_i2l (v := 0) hx hb dX7_between_2 (by decide +kernel) ?_
  refine W.lcmp hx hb dX7_between_3 ?_
  refine lv_topi (fun y_3 ey_3 => ?_)
  refine lv_if_ge (tgt := 11) hx hb dX7_between_4 (by decide) (fun c_4 => ?_) (fun c_4 => ?_)
  · have c_4 : 0 ≤ y_3 := c_4
    have f_11_1 : iR y_3 0 2147483647 := iR_leR c_4 (iR_c (n := 0) (a := 0) (b := 0) (by decide +kernel) (by decide +kernel)) (iR_top _) (by decide +kernel)
    have lc_4 : 0 ≤ x0 := l_cmpge ey_3 c_4
    refine lv_lload_n hx hb dX7_between_11 rfl (lv_at hl 0 rfl) ?_
    refine lv_iload_n hx hb dX7_between_12 rfl (lv_at hl 2 rfl) ?_
    refine lv_i2l (v := 99) hx hb dX7_between_13 (by decide +kernel) ?_
    refine W.lcmp hx hb dX7_between_14 ?_
    refine lv_topi (fun y_14 ey_14 => ?_)
    refine lv_if_le (tgt := 22) hx hb dX7_between_15 (by decide) (fun c_15 => ?_) (fun c_15 => ?_)
    · have c_15 : y_14 ≤ 0 := c_15
      have f_22_2 : iR y_14 (-2147483648) 0 := iR_leL c_15 (iR_top _) (iR_c (n := 0) (a := 0) (b := 0) (by decide +kernel) (by decide +kernel)) (by decide +kernel)
      have lc_15 : x0 ≤ 99 := l_cmple ey_14 c_15
      have lb : lR x0 0 99 := lR_bt lc_4 lc_15 (lR_c (n := 0) (a := 0) (b := 0) (by decide +kernel) (by decide +kernel)) (lR_c (n := 99) (a := 99) (b := 99) (by decide +kernel) (by decide +kernel))
      refine lv_lload_n hx hb dX7_between_22 rfl (lv_at hl 0 rfl) ?_
      refine lv_l2i (v := x0.toInt32) hx hb dX7_between_23 rfl ?_
      refine lv_topi (fun y_23 ey_23 => ?_)
      have f_23_3 : iR y_23 0 99 := iR_l2i ey_23 lb (by decide +kernel)
      exact k_ri B hP hD hS dX7_between_24 () [] rfl rfl rfl (Nat.le_of_ble_eq_true rfl) (Nat.le_of_ble_eq_true rfl) ⟨(show iR y_23 0 99 from f_23_3), (show y_23 = btw x0 0 99 from (btw_md (y := 0) (z := 99) (by decide) lc_4 (by decide) lc_15 ey_23))⟩
    · have c_15 : 0 < y_14 := i_nle c_15
      have f_18_2 : iR y_14 1 2147483647 := iR_ltR c_15 (iR_c (n := 0) (a := 0) (b := 0) (by decide +kernel) (by decide +kernel)) (iR_top _) (by decide +kernel)
      have lc_15 : 99 < x0 := l_cmpgt ey_14 c_15
      refine lv_iload_n hx hb dX7_between_18 rfl (lv_at hl 2 rfl) ?_
      refine lv_goto (tgt := 24) hx hb dX7_between_19 (by decide) ?_
      exact k_ri B hP hD hS dX7_between_24 () [] rfl rfl rfl (Nat.le_of_ble_eq_true rfl) (Nat.le_of_ble_eq_true rfl) ⟨(show iR 99 0 99 from (iR_c (n := 99) (a := 0) (b := 99) (by decide +kernel) (by decide +kernel))), (show 99 = btw x0 0 99 from (btw_hi (y := 0) (z := 99) (by decide) lc_4 (by decide) lc_15))⟩
  · have c_4 : y_3 < 0 := i_nle c_4
    have f_7_1 : iR y_3 (-2147483648) (-1) := iR_ltL c_4 (iR_top _) (iR_c (n := 0) (a := 0) (b := 0) (by decide +kernel) (by decide +kernel)) (by decide +kernel)
    have lc_4 : x0 < 0 := l_cmplt ey_3 c_4
    refine lv_iload_n hx hb dX7_between_7 rfl (lv_at hl 1 rfl) ?_
    refine lv_goto (tgt := 24) hx hb dX7_between_8 (by decide) ?_
    exact k_ri B hP hD hS dX7_between_24 () [] rfl rfl rfl (Nat.le_of_ble_eq_true rfl) (Nat.le_of_ble_eq_true rfl) ⟨(show iR 0 0 99 from (iR_c (n := 0) (a := 0) (b := 99) (by decide +kernel) (by decide +kernel))), (show 0 = btw x0 0 99 from (btw_lo (y := 0) (by decide) lc_4))⟩
set_option maxHeartbeats 8000000 in
set_option maxRecDepth 100000 in
theorem s_X7_roomNow_v0 (l : Launch) (dC : Nat → ClassId) (dI : Nat → Nat → Nat) (cI cJ cZ cM : ClassId) (h : Nat) (r : Nat → Nat) (i : Nat → Int32) (j : Nat → Int64) (f14 : Nat → Int32) (f15 : Nat → Int32) (f16 : Nat → Int32) (f19 : Nat → Int32) (f20 : Nat → Int32) (f26 : Nat → Int32) (f27 : Nat → Int32) (f32 : Nat → Int32) (f33 : Nat → Int32) (g61 : Nat → Int64) (hI : mR i) (hf14 : aR f14 0 10) (hf15 : aR f15 0 9999) (hf20 : aR f20 0 9) (hf26 : aR f26 (-1) 1600) (hf27 : aR f27 0 1600) (hsg26 : SEG f26 f27 f32 (i 13).toNatClampNeg 1600) : k_Mi l yX7_roomNow wsX7_roomNow ({ frames := 5, cells := 0, slots := 0, locals := 131 }) (dC, dI) vwCl (tyy cI cJ cZ cM) [(h, .inr (7, oM r i j)), ((r 14), .inl (cI, 2, .inl f14)), ((r 15), .inl (cI, 20, .inl f15)), ((r 16), .inl (cI, 20, .inl f16)), ((r 19), .inl (cI, 24, .inl f19)), ((r 20), .inl (cI, 24, .inl f20)), ((r 26), .inl (cI, 2, .inl f26)), ((r 27), .inl (cI, 2, .inl f27)), ((r 32), .inl (cI, 3200, .inl f32)), ((r 33), .inl (cI, 3200, .inl f33)), ((r 61), .inl (cJ, 500, .inr (.inl g61)))] [.ref h] 0 0 (fun (u9 : SU) => [(h, .inr (7, oM r (upd i 66 (-1)) j)), ((r 14), .inl (cI, 2, .inl f14)), ((r 15), .inl (cI, 20, .inl f15)), ((r 16), .inl (cI, 20, .inl f16)), ((r 19), .inl (cI, 24, .inl f19)), ((r 20), .inl (cI, 24, .inl f20)), ((r 26), .inl (cI, 2, .inl f26)), ((r 27), .inl (cI, 2, .inl f27)), ((r 32), .inl (cI, 3200, .inl f32)), ((r 33), .inl (cI, 3200, .inl f33)), ((r 61), .inl (cJ, 500, .inr (.inl (u9.2.2.2.1 0))))]) (fun (r9 : Int32) (u9 : SU) => (iR r9 0 99) ∧ (r9 = rmf f26 f27 f32 f33 (envf f14 f15 f16 f19 f20 (i 13) (i 62) (i 63) (i 64) (i 65) (-1)) (i 13).toNatClampNeg)) := by
  refine fun sz => k_enter (cc := cX7_roomNow) (maxL := 1) (ret := some (.int)) (Qc := fun A => va_Qi (fun (r9 : Int32) (u9 : SU) => (iR r9 0 99) ∧ (r9 = rmf f26 f27 f32 f33 (envf f14 f15 f16 f19 f20 (i 13) (i 62) (i 63) (i 64) (i 65) (-1)) (i 13).toNatClampNeg)) (fun u => k_B (dC, dI) vwCl (tyy cI cJ cZ cM) A ((fun (u9 : SU) => [(h, .inr (7, oM r (upd i 66 (-1)) j)), ((r 14), .inl (cI, 2, .inl f14)), ((r 15), .inl (cI, 20, .inl f15)), ((r 16), .inl (cI, 20, .inl f16)), ((r 19), .inl (cI, 24, .inl f19)), ((r 20), .inl (cI, 24, .inl f20)), ((r 26), .inl (cI, 2, .inl f26)), ((r 27), .inl (cI, 2, .inl f27)), ((r 32), .inl (cI, 3200, .inl f32)), ((r 33), .inl (cI, 3200, .inl f33)), ((r 61), .inl (cJ, 500, .inr (.inl (u9.2.2.2.1 0))))]) u)) A) sz (by decide +kernel) rfl (Nat.le_of_ble_eq_true rfl) (fun p e s m args below meth c A ls H locs B hP hD hS hl => ?_)
  obtain ⟨hx, hb, hml, hown, hts, hr, hlk, hnm, hK, hA, hN, hC⟩ := id B
  have hown : s.vm.findClass RX7 = some m.cls := hown
  have hl : lv_has ls 1 [(0, .ref h)] := hl
  have w_0 : (Cond.fieldLink RX7 213 "WishSeaModel" "askedWish" "I").before args s = true := hts _ (List.mem_of_getElem? (i := 1) rfl)
  have w_1 : (Cond.fieldLink RX7 90 "WishSeaModel" "roomFrom" "[I").before args s = true := hts _ (List.mem_of_getElem? (i := 2) rfl)
  have w_2 : (Cond.fieldLink RX7 51 "WishSeaModel" "bank" "I").before args s = true := hts _ (List.mem_of_getElem? (i := 3) rfl)
  have w_3 : (Cond.fieldLink RX7 93 "WishSeaModel" "roomBehind" "[I").before args s = true := hts _ (List.mem_of_getElem? (i := 4) rfl)
  have hinX7 : ∀ w ∈ u_ws RX7 TX7 92, w ∈ wsX7_roomNow := fun _ h => List.mem_cons_of_mem _ (List.mem_append_right _ h)
  refine lv_aload_n hx hb dX7_roomNow_0 rfl (lv_at hl 0 rfl) ?_
  refine lv_iconst (v := (-1)) hx hb dX7_roomNow_1 (by decide +kernel) ?_
  refine k_put (D := (dC, dI)) (ci := 7) (v := .int (-1)) (C := RX7) (T := TX7) (N := 92) (ws' := [(h, .inr (7, oM r (upd i 66 (-1)) j)), ((r 14), .inl (cI, 2, .inl f14)), ((r 15), .inl (cI, 20, .inl f15)), ((r 16), .inl (cI, 20, .inl f16)), ((r 19), .inl (cI, 24, .inl f19)), ((r 20), .inl (cI, 24, .inl f20)), ((r 26), .inl (cI, 2, .inl f26)), ((r 27), .inl (cI, 2, .inl f27)), ((r 32), .inl (cI, 3200, .inl f32)), ((r 33), .inl (cI, 3200, .inl f33)), ((r 61), .inl (cJ, 500, .inr (.inl g61)))]) hx hb hts hinX7 tyX7 tyX7_ok nmX7 hown hK hP hD hS 0 rfl rfl 66 (by decide) w_0 rfl rfl rfl rfl (Nat.le_of_ble_eq_true rfl) rfl dX7_roomNow_2 (fun H locs hP hD hS => ?_)
  refine lv_aload_n hx hb dX7_roomNow_5 rfl (lv_at hl 0 rfl) ?_
  refine k_get (D := (dC, dI)) (ci := 7) (v := .ref (r 26)) (C := RX7) (T := TX7) (N := 92) hx hb hts hinX7 hown hK hP 0 rfl rfl 26 (by decide) w_1 rfl rfl dX7_roomNow_6 ?_
  refine lv_aload_n hx hb dX7_roomNow_9 rfl (lv_at hl 0 rfl) ?_
  have f_10_1 : iR (i 13) 0 1 := hI 13
  refine k_get (D := (dC, dI)) (ci := 7) (v := .int (i 13)) (C := RX7) (T := TX7) (N := 92) hx hb hts hinX7 hown hK hP 0 rfl rfl 13 (by decide) w_2 rfl rfl dX7_roomNow_10 ?_
  refine va_iald hx hb hK hP 6 0 rfl rfl (iR_vp f_10_1 (by decide +kernel)) dX7_roomNow_13 ?_
  have f_13_2 : iR (f26 (i 13).toNatClampNeg) (-1) 1600 := hf26 _
  refine lv_iconst (v := (-1)) hx hb dX7_roomNow_14 (by decide +kernel) ?_
  refine lv_icmp_ne (tgt := 23) hx hb dX7_roomNow_15 (by decide) (fun c_15 => ?_) (fun c_15 => ?_)
  · have c_15 : ¬ (f26 (i 13).toNatClampNeg) = (-1) := c_15
    have f_23_3 : iR (f26 (i 13).toNatClampNeg) 0 1600 := iR_neL c_15 f_13_2 (iR_c (n := (-1)) (a := (-1)) (b := (-1)) (by decide +kernel) (by decide +kernel)) (by decide +kernel)
    refine lv_aload_n hx hb dX7_roomNow_23 rfl (lv_at hl 0 rfl) ?_
    refine lv_aload_n hx hb dX7_roomNow_24 rfl (lv_at hl 0 rfl) ?_
    refine k_get (D := (dC, dI)) (ci := 7) (v := .ref (r 26)) (C := RX7) (T := TX7) (N := 92) hx hb hts hinX7 hown hK hP 0 rfl rfl 26 (by decide) w_1 rfl rfl dX7_roomNow_25 ?_
    refine lv_aload_n hx hb dX7_roomNow_28 rfl (lv_at hl 0 rfl) ?_
    refine k_get (D := (dC, dI)) (ci := 7) (v := .int (i 13)) (C := RX7) (T := TX7) (N := 92) hx hb hts hinX7 hown hK hP 0 rfl rfl 13 (by decide) w_2 rfl rfl dX7_roomNow_29 ?_
    refine va_iald hx hb hK hP 6 0 rfl rfl (iR_vp f_10_1 (by decide +kernel)) dX7_roomNow_32 ?_
    refine lv_aload_n hx hb dX7_roomNow_33 rfl (lv_at hl 0 rfl) ?_
    refine k_get (D := (dC, dI)) (ci := 7) (v := .ref (r 27)) (C := RX7) (T := TX7) (N := 92) hx hb hts hinX7 hown hK hP 0 rfl rfl 27 (by decide) w_3 rfl rfl dX7_roomNow_34 ?_
    refine lv_aload_n hx hb dX7_roomNow_37 rfl (lv_at hl 0 rfl) ?_
    refine k_get (D := (dC, dI)) (ci := 7) (v := .int (i 13)) (C := RX7) (T := TX7) (N := 92) hx hb hts hinX7 hown hK hP 0 rfl rfl 13 (by decide) w_2 rfl rfl dX7_roomNow_38 ?_
    refine va_iald hx hb hK hP 7 0 rfl rfl (iR_vp f_10_1 (by decide +kernel)) dX7_roomNow_41 ?_
    have f_41_4 : iR (f27 (i 13).toNatClampNeg) 0 1600 := hf27 _
    refine k_cl (wc := [(h, .inr (7, oM r (upd i 66 (-1)) j)), ((r 14), .inl (cI, 2, .inl f14)), ((r 15), .inl (cI, 20, .inl f15)), ((r 16), .inl (cI, 20, .inl f16)), ((r 19), .inl (cI, 24, .inl f19)), ((r 20), .inl (cI, 24, .inl f20)), ((r 32), .inl (cI, 3200, .inl f32)), ((r 33), .inl (cI, 3200, .inl f33)), ((r 61), .inl (cJ, 500, .inr (.inl g61)))]) (wr := [((r 26), .inl (cI, 2, .inl f26)), ((r 27), .inl (cI, 2, .inl f27))]) (fun hPc hDc hFc => va_runV (As := [.int (f26 (i 13).toNatClampNeg), .int (f27 (i 13).toNatClampNeg)]) (rest := []) ⟨hx, hb, hml, hown, hts⟩ (s_X7_reckons_v0 l dC dI cI cJ cZ cM h r (upd i 66 (-1)) j (f26 (i 13).toNatClampNeg) (f27 (i 13).toNatClampNeg) f14 f15 f16 f19 f20 f32 f33 g61 f_23_3 f_41_4 (mR_upd 66 hI (show iR _ (loI 66) (hiI 66) from (iR_c (n := (-1)) (a := (-1)) (b := 11) (by decide +kernel) (by decide +kernel)))) hf14 hf15 hf20 (SEG_cd hsg26 c_15) H.size) (cwV 2 hts gX7_roomNow_X7_reckons rfl rfl rfl (by decide +kernel) ⟨(Nat.le_of_ble_eq_true rfl), (Nat.le_of_ble_eq_true rfl)⟩) (k_pV hPc hDc hK hN hC hS hFc hP (q0 := 0) (ci := 7) rfl rfl) rfl rfl hl.1 rfl (lv_room (Nat.le_of_ble_eq_true rfl)) dX7_roomNow_42 ⟨(Nat.le_of_ble_eq_true rfl), (Nat.le_of_ble_eq_true rfl)⟩) hP hD hS hA [0, 1, 2, 3, 4, 5, 8, 9, 10] [6, 7] rfl rfl rfl rfl (by decide) (fun _ => rfl) 0 0 rfl rfl (fun r_42 u_42 H locs hw hP hD hS => ?_)
    have g_42_0 := hw
    have hP : va_P (dC, dI) vwCl [((r 26), .inl (cI, 2, .inl f26)), ((r 27), .inl (cI, 2, .inl f27)), (h, .inr (7, oM r (upd i 66 (-1)) j)), ((r 14), .inl (cI, 2, .inl f14)), ((r 15), .inl (cI, 20, .inl f15)), ((r 16), .inl (cI, 20, .inl f16)), ((r 19), .inl (cI, 24, .inl f19)), ((r 20), .inl (cI, 24, .inl f20)), ((r 32), .inl (cI, 3200, .inl f32)), ((r 33), .inl (cI, 3200, .inl f33)), ((r 61), .inl (cJ, 500, .inr (.inl (u_42.2.2.2.1 0))))] H := hP
    have hD : va_D A [((r 26), .inl (cI, 2, .inl f26)), ((r 27), .inl (cI, 2, .inl f27)), (h, .inr (7, oM r (upd i 66 (-1)) j)), ((r 14), .inl (cI, 2, .inl f14)), ((r 15), .inl (cI, 20, .inl f15)), ((r 16), .inl (cI, 20, .inl f16)), ((r 19), .inl (cI, 24, .inl f19)), ((r 20), .inl (cI, 24, .inl f20)), ((r 32), .inl (cI, 3200, .inl f32)), ((r 33), .inl (cI, 3200, .inl f33)), ((r 61), .inl (cJ, 500, .inr (.inl (u_42.2.2.2.1 0))))] := hD
    have g_42_0 : r_42 = rkv f32 f33 (envf f14 f15 f16 f19 f20 (i 13) (i 62) (i 63) (i 64) (i 65) (-1)) (i 13).toNatClampNeg (f26 (i 13).toNatClampNeg) (f27 (i 13).toNatClampNeg) := g_42_0
    refine lv_iconst (v := 0) hx hb dX7_roomNow_45 (by decide +kernel) ?_
    refine lv_bipush (v := 99) hx hb dX7_roomNow_46 (by decide +kernel) ?_
    refine k_ci (wc := []) (wr := [((r 26), .inl (cI, 2, .inl f26)), ((r 27), .inl (cI, 2, .inl f27)), (h, .inr (7, oM r (upd i 66 (-1)) j)), ((r 14), .inl (cI, 2, .inl f14)), ((r 15), .inl (cI, 20, .inl f15)), ((r 16), .inl (cI, 20, .inl f16)), ((r 19), .inl (cI, 24, .inl f19)), ((r 20), .inl (cI, 24, .inl f20)), ((r 32), .inl (cI, 3200, .inl f32)), ((r 33), .inl (cI, 3200, .inl f33)), ((r 61), .inl (cJ, 500, .inr (.inl (u_42.2.2.2.1 0))))]) (fun hPc hDc hFc => va_runS (As := [.long r_42, .int 0, .int 99]) (rest := []) ⟨hx, hb, hml, hown, hts⟩ (s_X7_between_v0 l dC dI cI cJ cZ cM r_42 H.size) (va_cwS 3 hts gX7_roomNow_X7_between rfl rfl rfl (by decide +kernel) ⟨(Nat.le_of_ble_eq_true rfl), (Nat.le_of_ble_eq_true rfl)⟩) (k_pS hPc hDc hK hN hC hS hFc) rfl rfl hl.1 rfl (lv_room (Nat.le_of_ble_eq_true rfl)) dX7_roomNow_48 ⟨(Nat.le_of_ble_eq_true rfl), (Nat.le_of_ble_eq_true rfl)⟩) hP hD hS hA [] [0, 1, 2, 3, 4, 5, 6, 7, 8, 9, 10] rfl rfl rfl rfl (by decide) (fun _ => rfl) 0 0 rfl rfl (fun r_48 u_48 H locs hw hP hD hS => ?_)
    obtain ⟨g_48_0, g_48_1⟩ := hw
    have hP : va_P (dC, dI) vwCl [((r 26), .inl (cI, 2, .inl f26)), ((r 27), .inl (cI, 2, .inl f27)), (h, .inr (7, oM r (upd i 66 (-1)) j)), ((r 14), .inl (cI, 2, .inl f14)), ((r 15), .inl (cI, 20, .inl f15)), ((r 16), .inl (cI, 20, .inl f16)), ((r 19), .inl (cI, 24, .inl f19)), ((r 20), .inl (cI, 24, .inl f20)), ((r 32), .inl (cI, 3200, .inl f32)), ((r 33), .inl (cI, 3200, .inl f33)), ((r 61), .inl (cJ, 500, .inr (.inl (u_42.2.2.2.1 0))))] H := hP
    have hD : va_D A [((r 26), .inl (cI, 2, .inl f26)), ((r 27), .inl (cI, 2, .inl f27)), (h, .inr (7, oM r (upd i 66 (-1)) j)), ((r 14), .inl (cI, 2, .inl f14)), ((r 15), .inl (cI, 20, .inl f15)), ((r 16), .inl (cI, 20, .inl f16)), ((r 19), .inl (cI, 24, .inl f19)), ((r 20), .inl (cI, 24, .inl f20)), ((r 32), .inl (cI, 3200, .inl f32)), ((r 33), .inl (cI, 3200, .inl f33)), ((r 61), .inl (cJ, 500, .inr (.inl (u_42.2.2.2.1 0))))] := hD
    have g_48_1 : r_48 = btw r_42 0 99 := g_48_1
    exact k_ri B hP hD hS dX7_roomNow_51 ((fun _ => 0), (fun _ => 0), (fun _ => (fun _ => 0)), (fun k9 => match k9 with | 0 => (u_42.2.2.2.1 0) | _ => (fun _ => 0)), (fun _ => 0)) [2, 3, 4, 5, 6, 7, 0, 1, 8, 9, 10] rfl rfl rfl (Nat.le_of_ble_eq_true rfl) (Nat.le_of_ble_eq_true rfl) ⟨(show iR r_48 0 99 from g_48_0), (show r_48 = rmf f26 f27 f32 f33 (envf f14 f15 f16 f19 f20 (i 13) (i 62) (i 63) (i 64) (i 65) (-1)) (i 13).toNatClampNeg from (rmf_s c_15 g_42_0 g_48_1))⟩
  · have c_15 : (f26 (i 13).toNatClampNeg) = (-1) := c_15
    have f_18_3 : iR (f26 (i 13).toNatClampNeg) (-1) (-1) := iR_eqL c_15 f_13_2 (iR_c (n := (-1)) (a := (-1)) (b := (-1)) (by decide +kernel) (by decide +kernel)) (by decide +kernel)
    refine lv_bipush (v := 99) hx hb dX7_roomNow_18 (by decide +kernel) ?_
    refine lv_goto (tgt := 51) hx hb dX7_roomNow_20 (by decide) ?_
    exact k_ri B hP hD hS dX7_roomNow_51 ((fun _ => 0), (fun _ => 0), (fun _ => (fun _ => 0)), (fun k9 => match k9 with | 0 => g61 | _ => (fun _ => 0)), (fun _ => 0)) [0, 1, 2, 3, 4, 5, 6, 7, 8, 9, 10] rfl rfl rfl (Nat.le_of_ble_eq_true rfl) (Nat.le_of_ble_eq_true rfl) ⟨(show iR 99 0 99 from (iR_c (n := 99) (a := 0) (b := 99) (by decide +kernel) (by decide +kernel))), (show 99 = rmf f26 f27 f32 f33 (envf f14 f15 f16 f19 f20 (i 13) (i 62) (i 63) (i 64) (i 65) (-1)) (i 13).toNatClampNeg from (rmf_n c_15))⟩
set_option maxHeartbeats 8000000 in
set_option maxRecDepth 100000 in
theorem s_X7_isContent_v0 (l : Launch) (dC : Nat → ClassId) (dI : Nat → Nat → Nat) (cI cJ cZ cM : ClassId) (h : Nat) (r : Nat → Nat) (i : Nat → Int32) (j : Nat → Int64) (f14 : Nat → Int32) (f15 : Nat → Int32) (f16 : Nat → Int32) (f19 : Nat → Int32) (f20 : Nat → Int32) (f28 : Nat → Int32) (f29 : Nat → Int32) (f32 : Nat → Int32) (f33 : Nat → Int32) (g61 : Nat → Int64) (hI : mR i) (hf14 : aR f14 0 10) (hf15 : aR f15 0 9999) (hf20 : aR f20 0 9) (hf28 : aR f28 (-1) 1600) (hf29 : aR f29 0 1600) (hsg28 : SEG f28 f29 f32 (i 13).toNatClampNeg 1600) : k_Mi l yX7_isContent wsX7_isContent ({ frames := 5, cells := 0, slots := 0, locals := 131 }) (dC, dI) vwCl (tyy cI cJ cZ cM) [(h, .inr (7, oM r i j)), ((r 14), .inl (cI, 2, .inl f14)), ((r 15), .inl (cI, 20, .inl f15)), ((r 16), .inl (cI, 20, .inl f16)), ((r 19), .inl (cI, 24, .inl f19)), ((r 20), .inl (cI, 24, .inl f20)), ((r 28), .inl (cI, 2, .inl f28)), ((r 29), .inl (cI, 2, .inl f29)), ((r 32), .inl (cI, 3200, .inl f32)), ((r 33), .inl (cI, 3200, .inl f33)), ((r 61), .inl (cJ, 500, .inr (.inl g61)))] [.ref h] 0 0 (fun (u9 : SU) => [(h, .inr (7, oM r (upd i 66 (-1)) j)), ((r 14), .inl (cI, 2, .inl f14)), ((r 15), .inl (cI, 20, .inl f15)), ((r 16), .inl (cI, 20, .inl f16)), ((r 19), .inl (cI, 24, .inl f19)), ((r 20), .inl (cI, 24, .inl f20)), ((r 28), .inl (cI, 2, .inl f28)), ((r 29), .inl (cI, 2, .inl f29)), ((r 32), .inl (cI, 3200, .inl f32)), ((r 33), .inl (cI, 3200, .inl f33)), ((r 61), .inl (cJ, 500, .inr (.inl (u9.2.2.2.1 0))))]) (fun (r9 : Int32) (u9 : SU) => (iR r9 0 1) ∧ (r9 = ctf f28 f29 f32 f33 (envf f14 f15 f16 f19 f20 (i 13) (i 62) (i 63) (i 64) (i 65) (-1)) (i 13).toNatClampNeg)) := by
  refine fun sz => k_enter (cc := cX7_isContent) (maxL := 1) (ret := some (.boolean)) (Qc := fun A => va_Qi (fun (r9 : Int32) (u9 : SU) => (iR r9 0 1) ∧ (r9 = ctf f28 f29 f32 f33 (envf f14 f15 f16 f19 f20 (i 13) (i 62) (i 63) (i 64) (i 65) (-1)) (i 13).toNatClampNeg)) (fun u => k_B (dC, dI) vwCl (tyy cI cJ cZ cM) A ((fun (u9 : SU) => [(h, .inr (7, oM r (upd i 66 (-1)) j)), ((r 14), .inl (cI, 2, .inl f14)), ((r 15), .inl (cI, 20, .inl f15)), ((r 16), .inl (cI, 20, .inl f16)), ((r 19), .inl (cI, 24, .inl f19)), ((r 20), .inl (cI, 24, .inl f20)), ((r 28), .inl (cI, 2, .inl f28)), ((r 29), .inl (cI, 2, .inl f29)), ((r 32), .inl (cI, 3200, .inl f32)), ((r 33), .inl (cI, 3200, .inl f33)), ((r 61), .inl (cJ, 500, .inr (.inl (u9.2.2.2.1 0))))]) u)) A) sz (by decide +kernel) rfl (Nat.le_of_ble_eq_true rfl) (fun p e s m args below meth c A ls H locs B hP hD hS hl => ?_)
  obtain ⟨hx, hb, hml, hown, hts, hr, hlk, hnm, hK, hA, hN, hC⟩ := id B
  have hown : s.vm.findClass RX7 = some m.cls := hown
  have hl : lv_has ls 1 [(0, .ref h)] := hl
  have w_0 : (Cond.fieldLink RX7 213 "WishSeaModel" "askedWish" "I").before args s = true := hts _ (List.mem_of_getElem? (i := 1) rfl)
  have w_1 : (Cond.fieldLink RX7 96 "WishSeaModel" "contentFrom" "[I").before args s = true := hts _ (List.mem_of_getElem? (i := 2) rfl)
  have w_2 : (Cond.fieldLink RX7 51 "WishSeaModel" "bank" "I").before args s = true := hts _ (List.mem_of_getElem? (i := 3) rfl)
  have w_3 : (Cond.fieldLink RX7 99 "WishSeaModel" "contentBehind" "[I").before args s = true := hts _ (List.mem_of_getElem? (i := 4) rfl)
  have hinX7 : ∀ w ∈ u_ws RX7 TX7 92, w ∈ wsX7_isContent := fun _ h => List.mem_cons_of_mem _ (List.mem_append_right _ h)
  refine lv_aload_n hx hb dX7_isContent_0 rfl (lv_at hl 0 rfl) ?_
  refine lv_iconst (v := (-1)) hx hb dX7_isContent_1 (by decide +kernel) ?_
  refine k_put (D := (dC, dI)) (ci := 7) (v := .int (-1)) (C := RX7) (T := TX7) (N := 92) (ws' := [(h, .inr (7, oM r (upd i 66 (-1)) j)), ((r 14), .inl (cI, 2, .inl f14)), ((r 15), .inl (cI, 20, .inl f15)), ((r 16), .inl (cI, 20, .inl f16)), ((r 19), .inl (cI, 24, .inl f19)), ((r 20), .inl (cI, 24, .inl f20)), ((r 28), .inl (cI, 2, .inl f28)), ((r 29), .inl (cI, 2, .inl f29)), ((r 32), .inl (cI, 3200, .inl f32)), ((r 33), .inl (cI, 3200, .inl f33)), ((r 61), .inl (cJ, 500, .inr (.inl g61)))]) hx hb hts hinX7 tyX7 tyX7_ok nmX7 hown hK hP hD hS 0 rfl rfl 66 (by decide) w_0 rfl rfl rfl rfl (Nat.le_of_ble_eq_true rfl) rfl dX7_isContent_2 (fun H locs hP hD hS => ?_)
  refine lv_aload_n hx hb dX7_isContent_5 rfl (lv_at hl 0 rfl) ?_
  refine k_get (D := (dC, dI)) (ci := 7) (v := .ref (r 28)) (C := RX7) (T := TX7) (N := 92) hx hb hts hinX7 hown hK hP 0 rfl rfl 28 (by decide) w_1 rfl rfl dX7_isContent_6 ?_
  refine lv_aload_n hx hb dX7_isContent_9 rfl (lv_at hl 0 rfl) ?_
  have f_10_1 : iR (i 13) 0 1 := hI 13
  refine k_get (D := (dC, dI)) (ci := 7) (v := .int (i 13)) (C := RX7) (T := TX7) (N := 92) hx hb hts hinX7 hown hK hP 0 rfl rfl 13 (by decide) w_2 rfl rfl dX7_isContent_10 ?_
  refine va_iald hx hb hK hP 6 0 rfl rfl (iR_vp f_10_1 (by decide +kernel)) dX7_isContent_13 ?_
  have f_13_2 : iR (f28 (i 13).toNatClampNeg) (-1) 1600 := hf28 _
  refine lv_iconst (v := (-1)) hx hb dX7_isContent_14 (by decide +kernel) ?_
  refine lv_icmp_eq (tgt := 49) hx hb dX7_isContent_15 (by decide) (fun c_15 => ?_) (fun c_15 => ?_)
  · have c_15 : (f28 (i 13).toNatClampNeg) = (-1) := c_15
    have f_49_3 : iR (f28 (i 13).toNatClampNeg) (-1) (-1) := iR_eqL c_15 f_13_2 (iR_c (n := (-1)) (a := (-1)) (b := (-1)) (by decide +kernel) (by decide +kernel)) (by decide +kernel)
    refine lv_iconst (v := 0) hx hb dX7_isContent_49 (by decide +kernel) ?_
    exact k_ri B hP hD hS dX7_isContent_50 ((fun _ => 0), (fun _ => 0), (fun _ => (fun _ => 0)), (fun k9 => match k9 with | 0 => g61 | _ => (fun _ => 0)), (fun _ => 0)) [0, 1, 2, 3, 4, 5, 6, 7, 8, 9, 10] rfl rfl rfl (Nat.le_of_ble_eq_true rfl) (Nat.le_of_ble_eq_true rfl) ⟨(show iR 0 0 1 from (iR_c (n := 0) (a := 0) (b := 1) (by decide +kernel) (by decide +kernel))), (show 0 = ctf f28 f29 f32 f33 (envf f14 f15 f16 f19 f20 (i 13) (i 62) (i 63) (i 64) (i 65) (-1)) (i 13).toNatClampNeg from (ctf_n c_15))⟩
  · have c_15 : ¬ (f28 (i 13).toNatClampNeg) = (-1) := c_15
    have f_18_3 : iR (f28 (i 13).toNatClampNeg) 0 1600 := iR_neL c_15 f_13_2 (iR_c (n := (-1)) (a := (-1)) (b := (-1)) (by decide +kernel) (by decide +kernel)) (by decide +kernel)
    refine lv_aload_n hx hb dX7_isContent_18 rfl (lv_at hl 0 rfl) ?_
    refine lv_aload_n hx hb dX7_isContent_19 rfl (lv_at hl 0 rfl) ?_
    refine k_get (D := (dC, dI)) (ci := 7) (v := .ref (r 28)) (C := RX7) (T := TX7) (N := 92) hx hb hts hinX7 hown hK hP 0 rfl rfl 28 (by decide) w_1 rfl rfl dX7_isContent_20 ?_
    refine lv_aload_n hx hb dX7_isContent_23 rfl (lv_at hl 0 rfl) ?_
    refine k_get (D := (dC, dI)) (ci := 7) (v := .int (i 13)) (C := RX7) (T := TX7) (N := 92) hx hb hts hinX7 hown hK hP 0 rfl rfl 13 (by decide) w_2 rfl rfl dX7_isContent_24 ?_
    refine va_iald hx hb hK hP 6 0 rfl rfl (iR_vp f_10_1 (by decide +kernel)) dX7_isContent_27 ?_
    refine lv_aload_n hx hb dX7_isContent_28 rfl (lv_at hl 0 rfl) ?_
    refine k_get (D := (dC, dI)) (ci := 7) (v := .ref (r 29)) (C := RX7) (T := TX7) (N := 92) hx hb hts hinX7 hown hK hP 0 rfl rfl 29 (by decide) w_3 rfl rfl dX7_isContent_29 ?_
    refine lv_aload_n hx hb dX7_isContent_32 rfl (lv_at hl 0 rfl) ?_
    refine k_get (D := (dC, dI)) (ci := 7) (v := .int (i 13)) (C := RX7) (T := TX7) (N := 92) hx hb hts hinX7 hown hK hP 0 rfl rfl 13 (by decide) w_2 rfl rfl dX7_isContent_33 ?_
    refine va_iald hx hb hK hP 7 0 rfl rfl (iR_vp f_10_1 (by decide +kernel)) dX7_isContent_36 ?_
    have f_36_4 : iR (f29 (i 13).toNatClampNeg) 0 1600 := hf29 _
    refine k_cl (wc := [(h, .inr (7, oM r (upd i 66 (-1)) j)), ((r 14), .inl (cI, 2, .inl f14)), ((r 15), .inl (cI, 20, .inl f15)), ((r 16), .inl (cI, 20, .inl f16)), ((r 19), .inl (cI, 24, .inl f19)), ((r 20), .inl (cI, 24, .inl f20)), ((r 32), .inl (cI, 3200, .inl f32)), ((r 33), .inl (cI, 3200, .inl f33)), ((r 61), .inl (cJ, 500, .inr (.inl g61)))]) (wr := [((r 28), .inl (cI, 2, .inl f28)), ((r 29), .inl (cI, 2, .inl f29))]) (fun hPc hDc hFc => va_runV (As := [.int (f28 (i 13).toNatClampNeg), .int (f29 (i 13).toNatClampNeg)]) (rest := []) ⟨hx, hb, hml, hown, hts⟩ (s_X7_reckons_v0 l dC dI cI cJ cZ cM h r (upd i 66 (-1)) j (f28 (i 13).toNatClampNeg) (f29 (i 13).toNatClampNeg) f14 f15 f16 f19 f20 f32 f33 g61 f_18_3 f_36_4 (mR_upd 66 hI (show iR _ (loI 66) (hiI 66) from (iR_c (n := (-1)) (a := (-1)) (b := 11) (by decide +kernel) (by decide +kernel)))) hf14 hf15 hf20 (SEG_cd hsg28 c_15) H.size) (cwV 2 hts gX7_isContent_X7_reckons rfl rfl rfl (by decide +kernel) ⟨(Nat.le_of_ble_eq_true rfl), (Nat.le_of_ble_eq_true rfl)⟩) (k_pV hPc hDc hK hN hC hS hFc hP (q0 := 0) (ci := 7) rfl rfl) rfl rfl hl.1 rfl (lv_room (Nat.le_of_ble_eq_true rfl)) dX7_isContent_37 ⟨(Nat.le_of_ble_eq_true rfl), (Nat.le_of_ble_eq_true rfl)⟩) hP hD hS hA [0, 1, 2, 3, 4, 5, 8, 9, 10] [6, 7] rfl rfl rfl rfl (by decide) (fun _ => rfl) 0 0 rfl rfl (fun r_37 u_37 H locs hw hP hD hS => ?_)
    have g_37_0 := hw
    have hP : va_P (dC, dI) vwCl [((r 28), .inl (cI, 2, .inl f28)), ((r 29), .inl (cI, 2, .inl f29)), (h, .inr (7, oM r (upd i 66 (-1)) j)), ((r 14), .inl (cI, 2, .inl f14)), ((r 15), .inl (cI, 20, .inl f15)), ((r 16), .inl (cI, 20, .inl f16)), ((r 19), .inl (cI, 24, .inl f19)), ((r 20), .inl (cI, 24, .inl f20)), ((r 32), .inl (cI, 3200, .inl f32)), ((r 33), .inl (cI, 3200, .inl f33)), ((r 61), .inl (cJ, 500, .inr (.inl (u_37.2.2.2.1 0))))] H := hP
    have hD : va_D A [((r 28), .inl (cI, 2, .inl f28)), ((r 29), .inl (cI, 2, .inl f29)), (h, .inr (7, oM r (upd i 66 (-1)) j)), ((r 14), .inl (cI, 2, .inl f14)), ((r 15), .inl (cI, 20, .inl f15)), ((r 16), .inl (cI, 20, .inl f16)), ((r 19), .inl (cI, 24, .inl f19)), ((r 20), .inl (cI, 24, .inl f20)), ((r 32), .inl (cI, 3200, .inl f32)), ((r 33), .inl (cI, 3200, .inl f33)), ((r 61), .inl (cJ, 500, .inr (.inl (u_37.2.2.2.1 0))))] := hD
    have g_37_0 : r_37 = rkv f32 f33 (envf f14 f15 f16 f19 f20 (i 13) (i 62) (i 63) (i 64) (i 65) (-1)) (i 13).toNatClampNeg (f28 (i 13).toNatClampNeg) (f29 (i 13).toNatClampNeg) := g_37_0
    refine lv_lconst (v := 1) hx hb dX7_isContent_40 (by decide +kernel) ?_
    refine W.lcmp hx hb dX7_isContent_41 ?_
    refine lv_topi (fun y_41 ey_41 => ?_)
    refine lv_if_ne (tgt := 49) hx hb dX7_isContent_42 (by decide) (fun c_42 => ?_) (fun c_42 => ?_)
    · have c_42 : ¬ y_41 = 0 := c_42
      have lc_42 : ¬ r_37 = 1 := l_cmpne ey_41 c_42
      refine lv_iconst (v := 0) hx hb dX7_isContent_49 (by decide +kernel) ?_
      exact k_ri B hP hD hS dX7_isContent_50 ((fun _ => 0), (fun _ => 0), (fun _ => (fun _ => 0)), (fun k9 => match k9 with | 0 => (u_37.2.2.2.1 0) | _ => (fun _ => 0)), (fun _ => 0)) [2, 3, 4, 5, 6, 7, 0, 1, 8, 9, 10] rfl rfl rfl (Nat.le_of_ble_eq_true rfl) (Nat.le_of_ble_eq_true rfl) ⟨(show iR 0 0 1 from (iR_c (n := 0) (a := 0) (b := 1) (by decide +kernel) (by decide +kernel))), (show 0 = ctf f28 f29 f32 f33 (envf f14 f15 f16 f19 f20 (i 13) (i 62) (i 63) (i 64) (i 65) (-1)) (i 13).toNatClampNeg from (ctf_0 c_15 g_37_0 lc_42))⟩
    · have c_42 : y_41 = 0 := c_42
      have f_45_5 : iR y_41 0 0 := iR_eqL c_42 (iR_top _) (iR_c (n := 0) (a := 0) (b := 0) (by decide +kernel) (by decide +kernel)) (by decide +kernel)
      have lc_42 : r_37 = 1 := l_cmpe ey_41 c_42
      refine lv_iconst (v := 1) hx hb dX7_isContent_45 (by decide +kernel) ?_
      refine lv_goto (tgt := 50) hx hb dX7_isContent_46 (by decide) ?_
      exact k_ri B hP hD hS dX7_isContent_50 ((fun _ => 0), (fun _ => 0), (fun _ => (fun _ => 0)), (fun k9 => match k9 with | 0 => (u_37.2.2.2.1 0) | _ => (fun _ => 0)), (fun _ => 0)) [2, 3, 4, 5, 6, 7, 0, 1, 8, 9, 10] rfl rfl rfl (Nat.le_of_ble_eq_true rfl) (Nat.le_of_ble_eq_true rfl) ⟨(show iR 1 0 1 from (iR_c (n := 1) (a := 0) (b := 1) (by decide +kernel) (by decide +kernel))), (show 1 = ctf f28 f29 f32 f33 (envf f14 f15 f16 f19 f20 (i 13) (i 62) (i 63) (i 64) (i 65) (-1)) (i 13).toNatClampNeg from (ctf_1 c_15 g_37_0 lc_42))⟩
set_option maxHeartbeats 8000000 in
set_option maxRecDepth 100000 in
theorem s_X7_has_v0 (l : Launch) (dC : Nat → ClassId) (dI : Nat → Nat → Nat) (cI cJ cZ cM : ClassId) (h : Nat) (r : Nat → Nat) (i : Nat → Int32) (j : Nat → Int64) (x1 : Int32) (f14 : Nat → Int32) (f15 : Nat → Int32) (f16 : Nat → Int32) (f18 : Nat → Int32) (f19 : Nat → Int32) (f20 : Nat → Int32) (f26 : Nat → Int32) (f27 : Nat → Int32) (f28 : Nat → Int32) (f29 : Nat → Int32) (f30 : Nat → Int32) (f31 : Nat → Int32) (f32 : Nat → Int32) (f33 : Nat → Int32) (f49 : Nat → Int32) (f50 : Nat → Int32) (f51 : Nat → Int32) (f52 : Nat → Int32) (f53 : Nat → Int32) (g61 : Nat → Int64) (hI : mR i) (hJ60 : lR (j 60) 0 2147483647) (hf14 : aR f14 0 10) (hf15 : aR f15 0 9999) (hf18 : aR f18 0 12) (hf20 : aR f20 0 9) (hf26 : aR f26 (-1) 1600) (hf27 : aR f27 0 1600) (hf28 : aR f28 (-1) 1600) (hf29 : aR f29 0 1600) (hf30 : aR f30 0 999) (hf31 : aR f31 0 999) (hf49 : aR f49 0 1023) (hf50 : aR f50 0 999) (hf53 : aR f53 0 50) (hsg26 : SEG f26 f27 f32 (i 13).toNatClampNeg 1600) (hsg28 : SEG f28 f29 f32 (i 13).toNatClampNeg 1600) : k_Mi l yX7_has wsX7_has ({ frames := 6, cells := 0, slots := 0, locals := 151 }) (dC, dI) vwCl (tyy cI cJ cZ cM) [(h, .inr (7, oM r i j)), ((r 14), .inl (cI, 2, .inl f14)), ((r 15), .inl (cI, 20, .inl f15)), ((r 16), .inl (cI, 20, .inl f16)), ((r 18), .inl (cI, 2, .inl f18)), ((r 19), .inl (cI, 24, .inl f19)), ((r 20), .inl (cI, 24, .inl f20)), ((r 26), .inl (cI, 2, .inl f26)), ((r 27), .inl (cI, 2, .inl f27)), ((r 28), .inl (cI, 2, .inl f28)), ((r 29), .inl (cI, 2, .inl f29)), ((r 30), .inl (cI, 2, .inl f30)), ((r 31), .inl (cI, 2, .inl f31)), ((r 32), .inl (cI, 3200, .inl f32)), ((r 33), .inl (cI, 3200, .inl f33)), ((r 49), .inl (cI, 22, .inl f49)), ((r 50), .inl (cI, 22, .inl f50)), ((r 51), .inl (cI, 22, .inl f51)), ((r 52), .inl (cI, 22, .inl f52)), ((r 53), .inl (cI, 22, .inl f53)), ((r 61), .inl (cJ, 500, .inr (.inl g61)))] [.ref h, .int x1] 0 0 (fun (u9 : SU) => [(h, .inr (7, oM r (upd (upd (upd (upd (upd i 62 (f49 0)) 63 (f50 0)) 64 (f51 0)) 65 (f52 0)) 66 (u9.1 0)) j)), ((r 14), .inl (cI, 2, .inl f14)), ((r 15), .inl (cI, 20, .inl f15)), ((r 16), .inl (cI, 20, .inl f16)), ((r 18), .inl (cI, 2, .inl f18)), ((r 19), .inl (cI, 24, .inl f19)), ((r 20), .inl (cI, 24, .inl f20)), ((r 26), .inl (cI, 2, .inl f26)), ((r 27), .inl (cI, 2, .inl f27)), ((r 28), .inl (cI, 2, .inl f28)), ((r 29), .inl (cI, 2, .inl f29)), ((r 30), .inl (cI, 2, .inl f30)), ((r 31), .inl (cI, 2, .inl f31)), ((r 32), .inl (cI, 3200, .inl f32)), ((r 33), .inl (cI, 3200, .inl f33)), ((r 49), .inl (cI, 22, .inl f49)), ((r 50), .inl (cI, 22, .inl f50)), ((r 51), .inl (cI, 22, .inl f51)), ((r 52), .inl (cI, 22, .inl f52)), ((r 53), .inl (cI, 22, .inl f53)), ((r 61), .inl (cJ, 500, .inr (.inl (u9.2.2.2.1 0))))]) (fun (r9 : Int32) (u9 : SU) => (iR (u9.1 0) (-1) 11)) := by
  refine fun sz => k_enter (cc := cX7_has) (maxL := 2) (ret := some (.int)) (Qc := fun A => va_Qi (fun (r9 : Int32) (u9 : SU) => (iR (u9.1 0) (-1) 11)) (fun u => k_B (dC, dI) vwCl (tyy cI cJ cZ cM) A ((fun (u9 : SU) => [(h, .inr (7, oM r (upd (upd (upd (upd (upd i 62 (f49 0)) 63 (f50 0)) 64 (f51 0)) 65 (f52 0)) 66 (u9.1 0)) j)), ((r 14), .inl (cI, 2, .inl f14)), ((r 15), .inl (cI, 20, .inl f15)), ((r 16), .inl (cI, 20, .inl f16)), ((r 18), .inl (cI, 2, .inl f18)), ((r 19), .inl (cI, 24, .inl f19)), ((r 20), .inl (cI, 24, .inl f20)), ((r 26), .inl (cI, 2, .inl f26)), ((r 27), .inl (cI, 2, .inl f27)), ((r 28), .inl (cI, 2, .inl f28)), ((r 29), .inl (cI, 2, .inl f29)), ((r 30), .inl (cI, 2, .inl f30)), ((r 31), .inl (cI, 2, .inl f31)), ((r 32), .inl (cI, 3200, .inl f32)), ((r 33), .inl (cI, 3200, .inl f33)), ((r 49), .inl (cI, 22, .inl f49)), ((r 50), .inl (cI, 22, .inl f50)), ((r 51), .inl (cI, 22, .inl f51)), ((r 52), .inl (cI, 22, .inl f52)), ((r 53), .inl (cI, 22, .inl f53)), ((r 61), .inl (cJ, 500, .inr (.inl (u9.2.2.2.1 0))))]) u)) A) sz (by decide +kernel) rfl (Nat.le_of_ble_eq_true rfl) (fun p e s m args below meth c A ls H locs B hP hD hS hl => ?_)
  obtain ⟨hx, hb, hml, hown, hts, hr, hlk, hnm, hK, hA, hN, hC⟩ := id B
  have hown : s.vm.findClass RX7 = some m.cls := hown
  have hl : lv_has ls 2 [(0, .ref h), (1, .int x1)] := hl
  have w_0 : (Cond.fieldLink RX7 54 "WishSeaModel" "things" "[I").before args s = true := hts _ (List.mem_of_getElem? (i := 1) rfl)
  have w_1 : (Cond.fieldLink RX7 51 "WishSeaModel" "bank" "I").before args s = true := hts _ (List.mem_of_getElem? (i := 2) rfl)
  have w_2 : (Cond.fieldLink RX7 66 "WishSeaModel" "wishes" "[I").before args s = true := hts _ (List.mem_of_getElem? (i := 3) rfl)
  have w_3 : (Cond.fieldLink RX7 162 "WishSeaModel" "hadOf" "[I").before args s = true := hts _ (List.mem_of_getElem? (i := 4) rfl)
  have w_4 : (Cond.fieldLink RX7 165 "WishSeaModel" "seaOf" "[I").before args s = true := hts _ (List.mem_of_getElem? (i := 5) rfl)
  have w_5 : (Cond.fieldLink RX7 168 "WishSeaModel" "saidOf" "[I").before args s = true := hts _ (List.mem_of_getElem? (i := 6) rfl)
  have w_6 : (Cond.fieldLink RX7 171 "WishSeaModel" "dayOf" "[I").before args s = true := hts _ (List.mem_of_getElem? (i := 7) rfl)
  have w_7 : (Cond.fieldLink RX7 102 "WishSeaModel" "bearing" "[I").before args s = true := hts _ (List.mem_of_getElem? (i := 8) rfl)
  have w_8 : (Cond.fieldLink RX7 105 "WishSeaModel" "calming" "[I").before args s = true := hts _ (List.mem_of_getElem? (i := 9) rfl)
  have w_9 : (Cond.fieldLink RX7 174 "WishSeaModel" "keptMany" "[I").before args s = true := hts _ (List.mem_of_getElem? (i := 10) rfl)
  have w_10 : (Cond.fieldLink RX7 192 "WishSeaModel" "undos" "I").before args s = true := hts _ (List.mem_of_getElem? (i := 11) rfl)
  have w_11 : (Cond.fieldLink RX7 195 "WishSeaModel" "seeds" "J").before args s = true := hts _ (List.mem_of_getElem? (i := 12) rfl)
  have hinX7 : ∀ w ∈ u_ws RX7 TX7 92, w ∈ wsX7_has := fun _ h => List.mem_cons_of_mem _ (List.mem_append_right _ h)
  refine lv_aload_n hx hb dX7_has_0 rfl (lv_at hl 0 rfl) ?_
  refine lv_iconst (v := 0) hx hb dX7_has_1 (by decide +kernel) ?_
  refine k_cv (wc := [(h, .inr (7, oM r i j)), ((r 49), .inl (cI, 22, .inl f49)), ((r 50), .inl (cI, 22, .inl f50)), ((r 51), .inl (cI, 22, .inl f51)), ((r 52), .inl (cI, 22, .inl f52))]) (wr := [((r 14), .inl (cI, 2, .inl f14)), ((r 15), .inl (cI, 20, .inl f15)), ((r 16), .inl (cI, 20, .inl f16)), ((r 18), .inl (cI, 2, .inl f18)), ((r 19), .inl (cI, 24, .inl f19)), ((r 20), .inl (cI, 24, .inl f20)), ((r 26), .inl (cI, 2, .inl f26)), ((r 27), .inl (cI, 2, .inl f27)), ((r 28), .inl (cI, 2, .inl f28)), ((r 29), .inl (cI, 2, .inl f29)), ((r 30), .inl (cI, 2, .inl f30)), ((r 31), .inl (cI, 2, .inl f31)), ((r 32), .inl (cI, 3200, .inl f32)), ((r 33), .inl (cI, 3200, .inl f33)), ((r 53), .inl (cI, 22, .inl f53)), ((r 61), .inl (cJ, 500, .inr (.inl g61)))]) (fun hPc hDc hFc => va_runV (As := [.int 0]) (rest := []) ⟨hx, hb, hml, hown, hts⟩ (s_X7_asksLayer_v0 l dC dI cI cJ cZ cM h r i j 0 f49 f50 f51 f52 (iR_c (n := 0) (a := 0) (b := 21) (by decide +kernel) (by decide +kernel)) hI hf49 hf50 H.size) (cwV 1 hts gX7_has_X7_asksLayer rfl rfl rfl (by decide +kernel) ⟨(Nat.le_of_ble_eq_true rfl), (Nat.le_of_ble_eq_true rfl)⟩) (k_pV hPc hDc hK hN hC hS hFc hP (q0 := 0) (ci := 7) rfl rfl) rfl rfl hl.1 rfl (lv_room (Nat.le_of_ble_eq_true rfl)) dX7_has_2 ⟨(Nat.le_of_ble_eq_true rfl), (Nat.le_of_ble_eq_true rfl)⟩) hP hD hS hA [0, 15, 16, 17, 18] [1, 2, 3, 4, 5, 6, 7, 8, 9, 10, 11, 12, 13, 14, 19, 20] rfl rfl rfl rfl (by decide) (fun _ => rfl) 0 0 rfl rfl (fun u_2 H locs hw hP hD hS => ?_)
  have hP : va_P (dC, dI) vwCl [((r 14), .inl (cI, 2, .inl f14)), ((r 15), .inl (cI, 20, .inl f15)), ((r 16), .inl (cI, 20, .inl f16)), ((r 18), .inl (cI, 2, .inl f18)), ((r 19), .inl (cI, 24, .inl f19)), ((r 20), .inl (cI, 24, .inl f20)), ((r 26), .inl (cI, 2, .inl f26)), ((r 27), .inl (cI, 2, .inl f27)), ((r 28), .inl (cI, 2, .inl f28)), ((r 29), .inl (cI, 2, .inl f29)), ((r 30), .inl (cI, 2, .inl f30)), ((r 31), .inl (cI, 2, .inl f31)), ((r 32), .inl (cI, 3200, .inl f32)), ((r 33), .inl (cI, 3200, .inl f33)), ((r 53), .inl (cI, 22, .inl f53)), ((r 61), .inl (cJ, 500, .inr (.inl g61))), (h, .inr (7, oM r (upd (upd (upd (upd i 62 (f49 0)) 63 (f50 0)) 64 (f51 0)) 65 (f52 0)) j)), ((r 49), .inl (cI, 22, .inl f49)), ((r 50), .inl (cI, 22, .inl f50)), ((r 51), .inl (cI, 22, .inl f51)), ((r 52), .inl (cI, 22, .inl f52))] H := hP
  have hD : va_D A [((r 14), .inl (cI, 2, .inl f14)), ((r 15), .inl (cI, 20, .inl f15)), ((r 16), .inl (cI, 20, .inl f16)), ((r 18), .inl (cI, 2, .inl f18)), ((r 19), .inl (cI, 24, .inl f19)), ((r 20), .inl (cI, 24, .inl f20)), ((r 26), .inl (cI, 2, .inl f26)), ((r 27), .inl (cI, 2, .inl f27)), ((r 28), .inl (cI, 2, .inl f28)), ((r 29), .inl (cI, 2, .inl f29)), ((r 30), .inl (cI, 2, .inl f30)), ((r 31), .inl (cI, 2, .inl f31)), ((r 32), .inl (cI, 3200, .inl f32)), ((r 33), .inl (cI, 3200, .inl f33)), ((r 53), .inl (cI, 22, .inl f53)), ((r 61), .inl (cJ, 500, .inr (.inl g61))), (h, .inr (7, oM r (upd (upd (upd (upd i 62 (f49 0)) 63 (f50 0)) 64 (f51 0)) 65 (f52 0)) j)), ((r 49), .inl (cI, 22, .inl f49)), ((r 50), .inl (cI, 22, .inl f50)), ((r 51), .inl (cI, 22, .inl f51)), ((r 52), .inl (cI, 22, .inl f52))] := hD
  refine lv_iload_n hx hb dX7_has_5 rfl (lv_at hl 1 rfl) ?_
  rcases (show x1.toInt = 0 ∨ x1.toInt = 1 ∨ x1.toInt = 2 ∨ x1.toInt = 3 ∨ x1.toInt = 4 ∨ x1.toInt = 5 ∨ x1.toInt = 6 ∨ x1.toInt = 7 ∨ x1.toInt = 8 ∨ x1.toInt = 9 ∨ x1.toInt = 10 ∨ x1.toInt = 11 ∨ x1.toInt = 12 ∨ x1.toInt = 13 ∨ (¬ x1.toInt = 0 ∧ ¬ x1.toInt = 1 ∧ ¬ x1.toInt = 2 ∧ ¬ x1.toInt = 3 ∧ ¬ x1.toInt = 4 ∧ ¬ x1.toInt = 5 ∧ ¬ x1.toInt = 6 ∧ ¬ x1.toInt = 7 ∧ ¬ x1.toInt = 8 ∧ ¬ x1.toInt = 9 ∧ ¬ x1.toInt = 10 ∧ ¬ x1.toInt = 11 ∧ ¬ x1.toInt = 12 ∧ ¬ x1.toInt = 13) by omega) with c_6 | c_6 | c_6 | c_6 | c_6 | c_6 | c_6 | c_6 | c_6 | c_6 | c_6 | c_6 | c_6 | c_6 | c_6
  · have f_76_1 : iR x1 0 0 := iR_c c_6 (by decide +kernel)
    refine lv_tableIn (off := 70) (tgt := 76) hx hb dX7_has_6 (by rw [c_6]; decide) (by rw [c_6]; decide) (by rw [c_6]; decide +kernel) (by decide +kernel) ?_
    refine lv_aload_n hx hb dX7_has_76 rfl (lv_at hl 0 rfl) ?_
    refine k_get (D := (dC, dI)) (ci := 7) (v := .ref (r 14)) (C := RX7) (T := TX7) (N := 92) hx hb hts hinX7 hown hK hP 16 rfl rfl 14 (by decide) w_0 rfl rfl dX7_has_77 ?_
    refine lv_aload_n hx hb dX7_has_80 rfl (lv_at hl 0 rfl) ?_
    have f_81_2 : iR (i 13) 0 1 := hI 13
    refine k_get (D := (dC, dI)) (ci := 7) (v := .int (i 13)) (C := RX7) (T := TX7) (N := 92) hx hb hts hinX7 hown hK hP 16 rfl rfl 13 (by decide) w_1 rfl rfl dX7_has_81 ?_
    refine va_iald hx hb hK hP 0 0 rfl rfl (iR_vp f_81_2 (by decide +kernel)) dX7_has_84 ?_
    have f_84_3 : iR (f14 (i 13).toNatClampNeg) 0 10 := hf14 _
    exact k_ri B hP hD hS dX7_has_85 ((fun k9 => match k9 with | 0 => (i 66) | _ => 0), (fun _ => 0), (fun _ => (fun _ => 0)), (fun k9 => match k9 with | 0 => g61 | _ => (fun _ => 0)), (fun _ => 0)) [16, 0, 1, 2, 3, 4, 5, 6, 7, 8, 9, 10, 11, 12, 13, 17, 18, 19, 20, 14, 15] rfl rfl rfl (Nat.le_of_ble_eq_true rfl) (Nat.le_of_ble_eq_true rfl) (show iR (i 66) (-1) 11 from (hI 66))
  · have f_86_1 : iR x1 1 1 := iR_c c_6 (by decide +kernel)
    refine lv_tableIn (off := 80) (tgt := 86) hx hb dX7_has_6 (by rw [c_6]; decide) (by rw [c_6]; decide) (by rw [c_6]; decide +kernel) (by decide +kernel) ?_
    refine lv_aload_n hx hb dX7_has_86 rfl (lv_at hl 0 rfl) ?_
    refine k_get (D := (dC, dI)) (ci := 7) (v := .ref (r 18)) (C := RX7) (T := TX7) (N := 92) hx hb hts hinX7 hown hK hP 16 rfl rfl 18 (by decide) w_2 rfl rfl dX7_has_87 ?_
    refine lv_aload_n hx hb dX7_has_90 rfl (lv_at hl 0 rfl) ?_
    have f_91_2 : iR (i 13) 0 1 := hI 13
    refine k_get (D := (dC, dI)) (ci := 7) (v := .int (i 13)) (C := RX7) (T := TX7) (N := 92) hx hb hts hinX7 hown hK hP 16 rfl rfl 13 (by decide) w_1 rfl rfl dX7_has_91 ?_
    refine va_iald hx hb hK hP 3 0 rfl rfl (iR_vp f_91_2 (by decide +kernel)) dX7_has_94 ?_
    have f_94_3 : iR (f18 (i 13).toNatClampNeg) 0 12 := hf18 _
    exact k_ri B hP hD hS dX7_has_95 ((fun k9 => match k9 with | 0 => (i 66) | _ => 0), (fun _ => 0), (fun _ => (fun _ => 0)), (fun k9 => match k9 with | 0 => g61 | _ => (fun _ => 0)), (fun _ => 0)) [16, 0, 1, 2, 3, 4, 5, 6, 7, 8, 9, 10, 11, 12, 13, 17, 18, 19, 20, 14, 15] rfl rfl rfl (Nat.le_of_ble_eq_true rfl) (Nat.le_of_ble_eq_true rfl) (show iR (i 66) (-1) 11 from (hI 66))
  · have f_96_1 : iR x1 2 2 := iR_c c_6 (by decide +kernel)
    refine lv_tableIn (off := 90) (tgt := 96) hx hb dX7_has_6 (by rw [c_6]; decide) (by rw [c_6]; decide) (by rw [c_6]; decide +kernel) (by decide +kernel) ?_
    refine lv_aload_n hx hb dX7_has_96 rfl (lv_at hl 0 rfl) ?_
    refine k_get (D := (dC, dI)) (ci := 7) (v := .ref (r 49)) (C := RX7) (T := TX7) (N := 92) hx hb hts hinX7 hown hK hP 16 rfl rfl 49 (by decide) w_3 rfl rfl dX7_has_97 ?_
    refine lv_iconst (v := 0) hx hb dX7_has_100 (by decide +kernel) ?_
    refine k_iald (v := (f49 0)) hx hb hK hP 17 0 0 rfl rfl rfl (Nat.le_of_ble_eq_true rfl) (Nat.le_of_ble_eq_true rfl) rfl dX7_has_101 ?_
    have f_101_2 : iR (f49 0) 0 1023 := hf49 _
    exact k_ri B hP hD hS dX7_has_102 ((fun k9 => match k9 with | 0 => (i 66) | _ => 0), (fun _ => 0), (fun _ => (fun _ => 0)), (fun k9 => match k9 with | 0 => g61 | _ => (fun _ => 0)), (fun _ => 0)) [16, 0, 1, 2, 3, 4, 5, 6, 7, 8, 9, 10, 11, 12, 13, 17, 18, 19, 20, 14, 15] rfl rfl rfl (Nat.le_of_ble_eq_true rfl) (Nat.le_of_ble_eq_true rfl) (show iR (i 66) (-1) 11 from (hI 66))
  · have f_103_1 : iR x1 3 3 := iR_c c_6 (by decide +kernel)
    refine lv_tableIn (off := 97) (tgt := 103) hx hb dX7_has_6 (by rw [c_6]; decide) (by rw [c_6]; decide) (by rw [c_6]; decide +kernel) (by decide +kernel) ?_
    refine lv_aload_n hx hb dX7_has_103 rfl (lv_at hl 0 rfl) ?_
    refine lv_aload_n hx hb dX7_has_104 rfl (lv_at hl 0 rfl) ?_
    refine k_get (D := (dC, dI)) (ci := 7) (v := .ref (r 49)) (C := RX7) (T := TX7) (N := 92) hx hb hts hinX7 hown hK hP 16 rfl rfl 49 (by decide) w_3 rfl rfl dX7_has_105 ?_
    refine lv_iconst (v := 0) hx hb dX7_has_108 (by decide +kernel) ?_
    refine k_iald (v := (f49 0)) hx hb hK hP 17 0 0 rfl rfl rfl (Nat.le_of_ble_eq_true rfl) (Nat.le_of_ble_eq_true rfl) rfl dX7_has_109 ?_
    have f_109_2 : iR (f49 0) 0 1023 := hf49 _
    refine k_ci (wc := [(h, .inr (7, oM r (upd (upd (upd (upd i 62 (f49 0)) 63 (f50 0)) 64 (f51 0)) 65 (f52 0)) j)), ((r 14), .inl (cI, 2, .inl f14)), ((r 15), .inl (cI, 20, .inl f15))]) (wr := [((r 16), .inl (cI, 20, .inl f16)), ((r 18), .inl (cI, 2, .inl f18)), ((r 19), .inl (cI, 24, .inl f19)), ((r 20), .inl (cI, 24, .inl f20)), ((r 26), .inl (cI, 2, .inl f26)), ((r 27), .inl (cI, 2, .inl f27)), ((r 28), .inl (cI, 2, .inl f28)), ((r 29), .inl (cI, 2, .inl f29)), ((r 30), .inl (cI, 2, .inl f30)), ((r 31), .inl (cI, 2, .inl f31)), ((r 32), .inl (cI, 3200, .inl f32)), ((r 33), .inl (cI, 3200, .inl f33)), ((r 53), .inl (cI, 22, .inl f53)), ((r 61), .inl (cJ, 500, .inr (.inl g61))), ((r 49), .inl (cI, 22, .inl f49)), ((r 50), .inl (cI, 22, .inl f50)), ((r 51), .inl (cI, 22, .inl f51)), ((r 52), .inl (cI, 22, .inl f52))]) (fun hPc hDc hFc => va_runV (As := [.int (f49 0)]) (rest := []) ⟨hx, hb, hml, hown, hts⟩ (s_X7_worthOf_v0 l dC dI cI cJ cZ cM h r (upd (upd (upd (upd i 62 (f49 0)) 63 (f50 0)) 64 (f51 0)) 65 (f52 0)) j (f49 0) f14 f15 (mR_upd 65 (mR_upd 64 (mR_upd 63 (mR_upd 62 hI (show iR _ (loI 62) (hiI 62) from (iR_top _))) (show iR _ (loI 63) (hiI 63) from (iR_top _))) (show iR _ (loI 64) (hiI 64) from (iR_top _))) (show iR _ (loI 65) (hiI 65) from (iR_top _))) hf14 hf15 H.size) (cwV 1 hts gX7_has_X7_worthOf rfl rfl rfl (by decide +kernel) ⟨(Nat.le_of_ble_eq_true rfl), (Nat.le_of_ble_eq_true rfl)⟩) (k_pV hPc hDc hK hN hC hS hFc hP (q0 := 16) (ci := 7) rfl rfl) rfl rfl hl.1 rfl (lv_room (Nat.le_of_ble_eq_true rfl)) dX7_has_110 ⟨(Nat.le_of_ble_eq_true rfl), (Nat.le_of_ble_eq_true rfl)⟩) hP hD hS hA [16, 0, 1] [2, 3, 4, 5, 6, 7, 8, 9, 10, 11, 12, 13, 14, 15, 17, 18, 19, 20] rfl rfl rfl rfl (by decide) (fun _ => rfl) 0 0 rfl rfl (fun r_110 u_110 H locs hw hP hD hS => ?_)
    obtain ⟨g_110_0, g_110_1⟩ := hw
    have hP : va_P (dC, dI) vwCl [((r 16), .inl (cI, 20, .inl f16)), ((r 18), .inl (cI, 2, .inl f18)), ((r 19), .inl (cI, 24, .inl f19)), ((r 20), .inl (cI, 24, .inl f20)), ((r 26), .inl (cI, 2, .inl f26)), ((r 27), .inl (cI, 2, .inl f27)), ((r 28), .inl (cI, 2, .inl f28)), ((r 29), .inl (cI, 2, .inl f29)), ((r 30), .inl (cI, 2, .inl f30)), ((r 31), .inl (cI, 2, .inl f31)), ((r 32), .inl (cI, 3200, .inl f32)), ((r 33), .inl (cI, 3200, .inl f33)), ((r 53), .inl (cI, 22, .inl f53)), ((r 61), .inl (cJ, 500, .inr (.inl g61))), ((r 49), .inl (cI, 22, .inl f49)), ((r 50), .inl (cI, 22, .inl f50)), ((r 51), .inl (cI, 22, .inl f51)), ((r 52), .inl (cI, 22, .inl f52)), (h, .inr (7, oM r (upd (upd (upd (upd i 62 (f49 0)) 63 (f50 0)) 64 (f51 0)) 65 (f52 0)) j)), ((r 14), .inl (cI, 2, .inl f14)), ((r 15), .inl (cI, 20, .inl f15))] H := hP
    have hD : va_D A [((r 16), .inl (cI, 20, .inl f16)), ((r 18), .inl (cI, 2, .inl f18)), ((r 19), .inl (cI, 24, .inl f19)), ((r 20), .inl (cI, 24, .inl f20)), ((r 26), .inl (cI, 2, .inl f26)), ((r 27), .inl (cI, 2, .inl f27)), ((r 28), .inl (cI, 2, .inl f28)), ((r 29), .inl (cI, 2, .inl f29)), ((r 30), .inl (cI, 2, .inl f30)), ((r 31), .inl (cI, 2, .inl f31)), ((r 32), .inl (cI, 3200, .inl f32)), ((r 33), .inl (cI, 3200, .inl f33)), ((r 53), .inl (cI, 22, .inl f53)), ((r 61), .inl (cJ, 500, .inr (.inl g61))), ((r 49), .inl (cI, 22, .inl f49)), ((r 50), .inl (cI, 22, .inl f50)), ((r 51), .inl (cI, 22, .inl f51)), ((r 52), .inl (cI, 22, .inl f52)), (h, .inr (7, oM r (upd (upd (upd (upd i 62 (f49 0)) 63 (f50 0)) 64 (f51 0)) 65 (f52 0)) j)), ((r 14), .inl (cI, 2, .inl f14)), ((r 15), .inl (cI, 20, .inl f15))] := hD
    have g_110_1 : r_110 = wof f15 (i 13).toNatClampNeg (f49 0) (f14 (i 13).toNatClampNeg).toNatClampNeg := g_110_1
    exact k_ri B hP hD hS dX7_has_113 ((fun k9 => match k9 with | 0 => (i 66) | _ => 0), (fun _ => 0), (fun _ => (fun _ => 0)), (fun k9 => match k9 with | 0 => g61 | _ => (fun _ => 0)), (fun _ => 0)) [18, 19, 20, 0, 1, 2, 3, 4, 5, 6, 7, 8, 9, 10, 11, 14, 15, 16, 17, 12, 13] rfl rfl rfl (Nat.le_of_ble_eq_true rfl) (Nat.le_of_ble_eq_true rfl) (show iR (i 66) (-1) 11 from (hI 66))
  · have f_114_1 : iR x1 4 4 := iR_c c_6 (by decide +kernel)
    refine lv_tableIn (off := 108) (tgt := 114) hx hb dX7_has_6 (by rw [c_6]; decide) (by rw [c_6]; decide) (by rw [c_6]; decide +kernel) (by decide +kernel) ?_
    refine lv_aload_n hx hb dX7_has_114 rfl (lv_at hl 0 rfl) ?_
    refine k_get (D := (dC, dI)) (ci := 7) (v := .ref (r 50)) (C := RX7) (T := TX7) (N := 92) hx hb hts hinX7 hown hK hP 16 rfl rfl 50 (by decide) w_4 rfl rfl dX7_has_115 ?_
    refine lv_iconst (v := 0) hx hb dX7_has_118 (by decide +kernel) ?_
    refine k_iald (v := (f50 0)) hx hb hK hP 18 0 0 rfl rfl rfl (Nat.le_of_ble_eq_true rfl) (Nat.le_of_ble_eq_true rfl) rfl dX7_has_119 ?_
    have f_119_2 : iR (f50 0) 0 999 := hf50 _
    exact k_ri B hP hD hS dX7_has_120 ((fun k9 => match k9 with | 0 => (i 66) | _ => 0), (fun _ => 0), (fun _ => (fun _ => 0)), (fun k9 => match k9 with | 0 => g61 | _ => (fun _ => 0)), (fun _ => 0)) [16, 0, 1, 2, 3, 4, 5, 6, 7, 8, 9, 10, 11, 12, 13, 17, 18, 19, 20, 14, 15] rfl rfl rfl (Nat.le_of_ble_eq_true rfl) (Nat.le_of_ble_eq_true rfl) (show iR (i 66) (-1) 11 from (hI 66))
  · have f_121_1 : iR x1 5 5 := iR_c c_6 (by decide +kernel)
    refine lv_tableIn (off := 115) (tgt := 121) hx hb dX7_has_6 (by rw [c_6]; decide) (by rw [c_6]; decide) (by rw [c_6]; decide +kernel) (by decide +kernel) ?_
    refine lv_aload_n hx hb dX7_has_121 rfl (lv_at hl 0 rfl) ?_
    refine k_get (D := (dC, dI)) (ci := 7) (v := .ref (r 51)) (C := RX7) (T := TX7) (N := 92) hx hb hts hinX7 hown hK hP 16 rfl rfl 51 (by decide) w_5 rfl rfl dX7_has_122 ?_
    refine lv_iconst (v := 0) hx hb dX7_has_125 (by decide +kernel) ?_
    refine k_iald (v := (f51 0)) hx hb hK hP 19 0 0 rfl rfl rfl (Nat.le_of_ble_eq_true rfl) (Nat.le_of_ble_eq_true rfl) rfl dX7_has_126 ?_
    exact k_ri B hP hD hS dX7_has_127 ((fun k9 => match k9 with | 0 => (i 66) | _ => 0), (fun _ => 0), (fun _ => (fun _ => 0)), (fun k9 => match k9 with | 0 => g61 | _ => (fun _ => 0)), (fun _ => 0)) [16, 0, 1, 2, 3, 4, 5, 6, 7, 8, 9, 10, 11, 12, 13, 17, 18, 19, 20, 14, 15] rfl rfl rfl (Nat.le_of_ble_eq_true rfl) (Nat.le_of_ble_eq_true rfl) (show iR (i 66) (-1) 11 from (hI 66))
  · have f_128_1 : iR x1 6 6 := iR_c c_6 (by decide +kernel)
    refine lv_tableIn (off := 122) (tgt := 128) hx hb dX7_has_6 (by rw [c_6]; decide) (by rw [c_6]; decide) (by rw [c_6]; decide +kernel) (by decide +kernel) ?_
    refine lv_aload_n hx hb dX7_has_128 rfl (lv_at hl 0 rfl) ?_
    refine k_get (D := (dC, dI)) (ci := 7) (v := .ref (r 52)) (C := RX7) (T := TX7) (N := 92) hx hb hts hinX7 hown hK hP 16 rfl rfl 52 (by decide) w_6 rfl rfl dX7_has_129 ?_
    refine lv_iconst (v := 0) hx hb dX7_has_132 (by decide +kernel) ?_
    refine k_iald (v := (f52 0)) hx hb hK hP 20 0 0 rfl rfl rfl (Nat.le_of_ble_eq_true rfl) (Nat.le_of_ble_eq_true rfl) rfl dX7_has_133 ?_
    exact k_ri B hP hD hS dX7_has_134 ((fun k9 => match k9 with | 0 => (i 66) | _ => 0), (fun _ => 0), (fun _ => (fun _ => 0)), (fun k9 => match k9 with | 0 => g61 | _ => (fun _ => 0)), (fun _ => 0)) [16, 0, 1, 2, 3, 4, 5, 6, 7, 8, 9, 10, 11, 12, 13, 17, 18, 19, 20, 14, 15] rfl rfl rfl (Nat.le_of_ble_eq_true rfl) (Nat.le_of_ble_eq_true rfl) (show iR (i 66) (-1) 11 from (hI 66))
  · have f_135_1 : iR x1 7 7 := iR_c c_6 (by decide +kernel)
    refine lv_tableIn (off := 129) (tgt := 135) hx hb dX7_has_6 (by rw [c_6]; decide) (by rw [c_6]; decide) (by rw [c_6]; decide +kernel) (by decide +kernel) ?_
    refine lv_aload_n hx hb dX7_has_135 rfl (lv_at hl 0 rfl) ?_
    refine k_ci (wc := [(h, .inr (7, oM r (upd (upd (upd (upd i 62 (f49 0)) 63 (f50 0)) 64 (f51 0)) 65 (f52 0)) j)), ((r 14), .inl (cI, 2, .inl f14)), ((r 15), .inl (cI, 20, .inl f15)), ((r 16), .inl (cI, 20, .inl f16)), ((r 19), .inl (cI, 24, .inl f19)), ((r 20), .inl (cI, 24, .inl f20)), ((r 26), .inl (cI, 2, .inl f26)), ((r 27), .inl (cI, 2, .inl f27)), ((r 32), .inl (cI, 3200, .inl f32)), ((r 33), .inl (cI, 3200, .inl f33)), ((r 61), .inl (cJ, 500, .inr (.inl g61)))]) (wr := [((r 18), .inl (cI, 2, .inl f18)), ((r 28), .inl (cI, 2, .inl f28)), ((r 29), .inl (cI, 2, .inl f29)), ((r 30), .inl (cI, 2, .inl f30)), ((r 31), .inl (cI, 2, .inl f31)), ((r 53), .inl (cI, 22, .inl f53)), ((r 49), .inl (cI, 22, .inl f49)), ((r 50), .inl (cI, 22, .inl f50)), ((r 51), .inl (cI, 22, .inl f51)), ((r 52), .inl (cI, 22, .inl f52))]) (fun hPc hDc hFc => va_runV (As := []) (rest := []) ⟨hx, hb, hml, hown, hts⟩ (s_X7_roomNow_v0 l dC dI cI cJ cZ cM h r (upd (upd (upd (upd i 62 (f49 0)) 63 (f50 0)) 64 (f51 0)) 65 (f52 0)) j f14 f15 f16 f19 f20 f26 f27 f32 f33 g61 (mR_upd 65 (mR_upd 64 (mR_upd 63 (mR_upd 62 hI (show iR _ (loI 62) (hiI 62) from (iR_top _))) (show iR _ (loI 63) (hiI 63) from (iR_top _))) (show iR _ (loI 64) (hiI 64) from (iR_top _))) (show iR _ (loI 65) (hiI 65) from (iR_top _))) hf14 hf15 hf20 hf26 hf27 hsg26 H.size) (cwV 0 hts gX7_has_X7_roomNow rfl rfl rfl (by decide +kernel) ⟨(Nat.le_of_ble_eq_true rfl), (Nat.le_of_ble_eq_true rfl)⟩) (k_pV hPc hDc hK hN hC hS hFc hP (q0 := 16) (ci := 7) rfl rfl) rfl rfl hl.1 rfl (lv_room (Nat.le_of_ble_eq_true rfl)) dX7_has_136 ⟨(Nat.le_of_ble_eq_true rfl), (Nat.le_of_ble_eq_true rfl)⟩) hP hD hS hA [16, 0, 1, 2, 4, 5, 6, 7, 12, 13, 15] [3, 8, 9, 10, 11, 14, 17, 18, 19, 20] rfl rfl rfl rfl (by decide) (fun _ => rfl) 0 0 rfl rfl (fun r_136 u_136 H locs hw hP hD hS => ?_)
    obtain ⟨g_136_0, g_136_1⟩ := hw
    have hP : va_P (dC, dI) vwCl [((r 18), .inl (cI, 2, .inl f18)), ((r 28), .inl (cI, 2, .inl f28)), ((r 29), .inl (cI, 2, .inl f29)), ((r 30), .inl (cI, 2, .inl f30)), ((r 31), .inl (cI, 2, .inl f31)), ((r 53), .inl (cI, 22, .inl f53)), ((r 49), .inl (cI, 22, .inl f49)), ((r 50), .inl (cI, 22, .inl f50)), ((r 51), .inl (cI, 22, .inl f51)), ((r 52), .inl (cI, 22, .inl f52)), (h, .inr (7, oM r (upd (upd (upd (upd (upd i 62 (f49 0)) 63 (f50 0)) 64 (f51 0)) 65 (f52 0)) 66 (-1)) j)), ((r 14), .inl (cI, 2, .inl f14)), ((r 15), .inl (cI, 20, .inl f15)), ((r 16), .inl (cI, 20, .inl f16)), ((r 19), .inl (cI, 24, .inl f19)), ((r 20), .inl (cI, 24, .inl f20)), ((r 26), .inl (cI, 2, .inl f26)), ((r 27), .inl (cI, 2, .inl f27)), ((r 32), .inl (cI, 3200, .inl f32)), ((r 33), .inl (cI, 3200, .inl f33)), ((r 61), .inl (cJ, 500, .inr (.inl (u_136.2.2.2.1 0))))] H := hP
    have hD : va_D A [((r 18), .inl (cI, 2, .inl f18)), ((r 28), .inl (cI, 2, .inl f28)), ((r 29), .inl (cI, 2, .inl f29)), ((r 30), .inl (cI, 2, .inl f30)), ((r 31), .inl (cI, 2, .inl f31)), ((r 53), .inl (cI, 22, .inl f53)), ((r 49), .inl (cI, 22, .inl f49)), ((r 50), .inl (cI, 22, .inl f50)), ((r 51), .inl (cI, 22, .inl f51)), ((r 52), .inl (cI, 22, .inl f52)), (h, .inr (7, oM r (upd (upd (upd (upd (upd i 62 (f49 0)) 63 (f50 0)) 64 (f51 0)) 65 (f52 0)) 66 (-1)) j)), ((r 14), .inl (cI, 2, .inl f14)), ((r 15), .inl (cI, 20, .inl f15)), ((r 16), .inl (cI, 20, .inl f16)), ((r 19), .inl (cI, 24, .inl f19)), ((r 20), .inl (cI, 24, .inl f20)), ((r 26), .inl (cI, 2, .inl f26)), ((r 27), .inl (cI, 2, .inl f27)), ((r 32), .inl (cI, 3200, .inl f32)), ((r 33), .inl (cI, 3200, .inl f33)), ((r 61), .inl (cJ, 500, .inr (.inl (u_136.2.2.2.1 0))))] := hD
    have g_136_1 : r_136 = rmf f26 f27 f32 f33 (envf f14 f15 f16 f19 f20 (i 13) (f49 0) (f50 0) (f51 0) (f52 0) (-1)) (i 13).toNatClampNeg := g_136_1
    exact k_ri B hP hD hS dX7_has_139 ((fun k9 => match k9 with | 0 => -1 | _ => 0), (fun _ => 0), (fun _ => (fun _ => 0)), (fun k9 => match k9 with | 0 => (u_136.2.2.2.1 0) | _ => (fun _ => 0)), (fun _ => 0)) [10, 11, 12, 13, 0, 14, 15, 16, 17, 1, 2, 3, 4, 18, 19, 6, 7, 8, 9, 5, 20] rfl rfl rfl (Nat.le_of_ble_eq_true rfl) (Nat.le_of_ble_eq_true rfl) (show iR (-1) (-1) 11 from (iR_c (n := (-1)) (a := (-1)) (b := 11) (by decide +kernel) (by decide +kernel)))
  · have f_140_1 : iR x1 8 8 := iR_c c_6 (by decide +kernel)
    refine lv_tableIn (off := 134) (tgt := 140) hx hb dX7_has_6 (by rw [c_6]; decide) (by rw [c_6]; decide) (by rw [c_6]; decide +kernel) (by decide +kernel) ?_
    refine lv_aload_n hx hb dX7_has_140 rfl (lv_at hl 0 rfl) ?_
    refine k_ci (wc := [(h, .inr (7, oM r (upd (upd (upd (upd i 62 (f49 0)) 63 (f50 0)) 64 (f51 0)) 65 (f52 0)) j)), ((r 14), .inl (cI, 2, .inl f14)), ((r 15), .inl (cI, 20, .inl f15)), ((r 16), .inl (cI, 20, .inl f16)), ((r 19), .inl (cI, 24, .inl f19)), ((r 20), .inl (cI, 24, .inl f20)), ((r 28), .inl (cI, 2, .inl f28)), ((r 29), .inl (cI, 2, .inl f29)), ((r 32), .inl (cI, 3200, .inl f32)), ((r 33), .inl (cI, 3200, .inl f33)), ((r 61), .inl (cJ, 500, .inr (.inl g61)))]) (wr := [((r 18), .inl (cI, 2, .inl f18)), ((r 26), .inl (cI, 2, .inl f26)), ((r 27), .inl (cI, 2, .inl f27)), ((r 30), .inl (cI, 2, .inl f30)), ((r 31), .inl (cI, 2, .inl f31)), ((r 53), .inl (cI, 22, .inl f53)), ((r 49), .inl (cI, 22, .inl f49)), ((r 50), .inl (cI, 22, .inl f50)), ((r 51), .inl (cI, 22, .inl f51)), ((r 52), .inl (cI, 22, .inl f52))]) (fun hPc hDc hFc => va_runV (As := []) (rest := []) ⟨hx, hb, hml, hown, hts⟩ (s_X7_isContent_v0 l dC dI cI cJ cZ cM h r (upd (upd (upd (upd i 62 (f49 0)) 63 (f50 0)) 64 (f51 0)) 65 (f52 0)) j f14 f15 f16 f19 f20 f28 f29 f32 f33 g61 (mR_upd 65 (mR_upd 64 (mR_upd 63 (mR_upd 62 hI (show iR _ (loI 62) (hiI 62) from (iR_top _))) (show iR _ (loI 63) (hiI 63) from (iR_top _))) (show iR _ (loI 64) (hiI 64) from (iR_top _))) (show iR _ (loI 65) (hiI 65) from (iR_top _))) hf14 hf15 hf20 hf28 hf29 hsg28 H.size) (cwV 0 hts gX7_has_X7_isContent rfl rfl rfl (by decide +kernel) ⟨(Nat.le_of_ble_eq_true rfl), (Nat.le_of_ble_eq_true rfl)⟩) (k_pV hPc hDc hK hN hC hS hFc hP (q0 := 16) (ci := 7) rfl rfl) rfl rfl hl.1 rfl (lv_room (Nat.le_of_ble_eq_true rfl)) dX7_has_141 ⟨(Nat.le_of_ble_eq_true rfl), (Nat.le_of_ble_eq_true rfl)⟩) hP hD hS hA [16, 0, 1, 2, 4, 5, 8, 9, 12, 13, 15] [3, 6, 7, 10, 11, 14, 17, 18, 19, 20] rfl rfl rfl rfl (by decide) (fun _ => rfl) 0 0 rfl rfl (fun r_141 u_141 H locs hw hP hD hS => ?_)
    obtain ⟨g_141_0, g_141_1⟩ := hw
    have hP : va_P (dC, dI) vwCl [((r 18), .inl (cI, 2, .inl f18)), ((r 26), .inl (cI, 2, .inl f26)), ((r 27), .inl (cI, 2, .inl f27)), ((r 30), .inl (cI, 2, .inl f30)), ((r 31), .inl (cI, 2, .inl f31)), ((r 53), .inl (cI, 22, .inl f53)), ((r 49), .inl (cI, 22, .inl f49)), ((r 50), .inl (cI, 22, .inl f50)), ((r 51), .inl (cI, 22, .inl f51)), ((r 52), .inl (cI, 22, .inl f52)), (h, .inr (7, oM r (upd (upd (upd (upd (upd i 62 (f49 0)) 63 (f50 0)) 64 (f51 0)) 65 (f52 0)) 66 (-1)) j)), ((r 14), .inl (cI, 2, .inl f14)), ((r 15), .inl (cI, 20, .inl f15)), ((r 16), .inl (cI, 20, .inl f16)), ((r 19), .inl (cI, 24, .inl f19)), ((r 20), .inl (cI, 24, .inl f20)), ((r 28), .inl (cI, 2, .inl f28)), ((r 29), .inl (cI, 2, .inl f29)), ((r 32), .inl (cI, 3200, .inl f32)), ((r 33), .inl (cI, 3200, .inl f33)), ((r 61), .inl (cJ, 500, .inr (.inl (u_141.2.2.2.1 0))))] H := hP
    have hD : va_D A [((r 18), .inl (cI, 2, .inl f18)), ((r 26), .inl (cI, 2, .inl f26)), ((r 27), .inl (cI, 2, .inl f27)), ((r 30), .inl (cI, 2, .inl f30)), ((r 31), .inl (cI, 2, .inl f31)), ((r 53), .inl (cI, 22, .inl f53)), ((r 49), .inl (cI, 22, .inl f49)), ((r 50), .inl (cI, 22, .inl f50)), ((r 51), .inl (cI, 22, .inl f51)), ((r 52), .inl (cI, 22, .inl f52)), (h, .inr (7, oM r (upd (upd (upd (upd (upd i 62 (f49 0)) 63 (f50 0)) 64 (f51 0)) 65 (f52 0)) 66 (-1)) j)), ((r 14), .inl (cI, 2, .inl f14)), ((r 15), .inl (cI, 20, .inl f15)), ((r 16), .inl (cI, 20, .inl f16)), ((r 19), .inl (cI, 24, .inl f19)), ((r 20), .inl (cI, 24, .inl f20)), ((r 28), .inl (cI, 2, .inl f28)), ((r 29), .inl (cI, 2, .inl f29)), ((r 32), .inl (cI, 3200, .inl f32)), ((r 33), .inl (cI, 3200, .inl f33)), ((r 61), .inl (cJ, 500, .inr (.inl (u_141.2.2.2.1 0))))] := hD
    have g_141_1 : r_141 = ctf f28 f29 f32 f33 (envf f14 f15 f16 f19 f20 (i 13) (f49 0) (f50 0) (f51 0) (f52 0) (-1)) (i 13).toNatClampNeg := g_141_1
    refine lv_if_eq (tgt := 151) hx hb dX7_has_144 (by decide) (fun c_144 => ?_) (fun c_144 => ?_)
    · have c_144 : r_141 = 0 := c_144
      have f_151_2 : iR r_141 0 0 := iR_eqL c_144 g_141_0 (iR_c (n := 0) (a := 0) (b := 0) (by decide +kernel) (by decide +kernel)) (by decide +kernel)
      refine lv_iconst (v := 0) hx hb dX7_has_151 (by decide +kernel) ?_
      exact k_ri B hP hD hS dX7_has_152 ((fun k9 => match k9 with | 0 => -1 | _ => 0), (fun _ => 0), (fun _ => (fun _ => 0)), (fun k9 => match k9 with | 0 => (u_141.2.2.2.1 0) | _ => (fun _ => 0)), (fun _ => 0)) [10, 11, 12, 13, 0, 14, 15, 1, 2, 16, 17, 3, 4, 18, 19, 6, 7, 8, 9, 5, 20] rfl rfl rfl (Nat.le_of_ble_eq_true rfl) (Nat.le_of_ble_eq_true rfl) (show iR (-1) (-1) 11 from (iR_c (n := (-1)) (a := (-1)) (b := 11) (by decide +kernel) (by decide +kernel)))
    · have c_144 : ¬ r_141 = 0 := c_144
      have f_147_2 : iR r_141 1 1 := iR_neL c_144 g_141_0 (iR_c (n := 0) (a := 0) (b := 0) (by decide +kernel) (by decide +kernel)) (by decide +kernel)
      refine lv_iconst (v := 1) hx hb dX7_has_147 (by decide +kernel) ?_
      refine lv_goto (tgt := 152) hx hb dX7_has_148 (by decide) ?_
      exact k_ri B hP hD hS dX7_has_152 ((fun k9 => match k9 with | 0 => -1 | _ => 0), (fun _ => 0), (fun _ => (fun _ => 0)), (fun k9 => match k9 with | 0 => (u_141.2.2.2.1 0) | _ => (fun _ => 0)), (fun _ => 0)) [10, 11, 12, 13, 0, 14, 15, 1, 2, 16, 17, 3, 4, 18, 19, 6, 7, 8, 9, 5, 20] rfl rfl rfl (Nat.le_of_ble_eq_true rfl) (Nat.le_of_ble_eq_true rfl) (show iR (-1) (-1) 11 from (iR_c (n := (-1)) (a := (-1)) (b := 11) (by decide +kernel) (by decide +kernel)))
  · have f_153_1 : iR x1 9 9 := iR_c c_6 (by decide +kernel)
    refine lv_tableIn (off := 147) (tgt := 153) hx hb dX7_has_6 (by rw [c_6]; decide) (by rw [c_6]; decide) (by rw [c_6]; decide +kernel) (by decide +kernel) ?_
    refine lv_aload_n hx hb dX7_has_153 rfl (lv_at hl 0 rfl) ?_
    refine k_get (D := (dC, dI)) (ci := 7) (v := .ref (r 30)) (C := RX7) (T := TX7) (N := 92) hx hb hts hinX7 hown hK hP 16 rfl rfl 30 (by decide) w_7 rfl rfl dX7_has_154 ?_
    refine lv_aload_n hx hb dX7_has_157 rfl (lv_at hl 0 rfl) ?_
    have f_158_2 : iR (i 13) 0 1 := hI 13
    refine k_get (D := (dC, dI)) (ci := 7) (v := .int (i 13)) (C := RX7) (T := TX7) (N := 92) hx hb hts hinX7 hown hK hP 16 rfl rfl 13 (by decide) w_1 rfl rfl dX7_has_158 ?_
    refine va_iald hx hb hK hP 10 0 rfl rfl (iR_vp f_158_2 (by decide +kernel)) dX7_has_161 ?_
    have f_161_3 : iR (f30 (i 13).toNatClampNeg) 0 999 := hf30 _
    exact k_ri B hP hD hS dX7_has_162 ((fun k9 => match k9 with | 0 => (i 66) | _ => 0), (fun _ => 0), (fun _ => (fun _ => 0)), (fun k9 => match k9 with | 0 => g61 | _ => (fun _ => 0)), (fun _ => 0)) [16, 0, 1, 2, 3, 4, 5, 6, 7, 8, 9, 10, 11, 12, 13, 17, 18, 19, 20, 14, 15] rfl rfl rfl (Nat.le_of_ble_eq_true rfl) (Nat.le_of_ble_eq_true rfl) (show iR (i 66) (-1) 11 from (hI 66))
  · have f_163_1 : iR x1 10 10 := iR_c c_6 (by decide +kernel)
    refine lv_tableIn (off := 157) (tgt := 163) hx hb dX7_has_6 (by rw [c_6]; decide) (by rw [c_6]; decide) (by rw [c_6]; decide +kernel) (by decide +kernel) ?_
    refine lv_aload_n hx hb dX7_has_163 rfl (lv_at hl 0 rfl) ?_
    refine k_get (D := (dC, dI)) (ci := 7) (v := .ref (r 31)) (C := RX7) (T := TX7) (N := 92) hx hb hts hinX7 hown hK hP 16 rfl rfl 31 (by decide) w_8 rfl rfl dX7_has_164 ?_
    refine lv_aload_n hx hb dX7_has_167 rfl (lv_at hl 0 rfl) ?_
    have f_168_2 : iR (i 13) 0 1 := hI 13
    refine k_get (D := (dC, dI)) (ci := 7) (v := .int (i 13)) (C := RX7) (T := TX7) (N := 92) hx hb hts hinX7 hown hK hP 16 rfl rfl 13 (by decide) w_1 rfl rfl dX7_has_168 ?_
    refine va_iald hx hb hK hP 11 0 rfl rfl (iR_vp f_168_2 (by decide +kernel)) dX7_has_171 ?_
    have f_171_3 : iR (f31 (i 13).toNatClampNeg) 0 999 := hf31 _
    exact k_ri B hP hD hS dX7_has_172 ((fun k9 => match k9 with | 0 => (i 66) | _ => 0), (fun _ => 0), (fun _ => (fun _ => 0)), (fun k9 => match k9 with | 0 => g61 | _ => (fun _ => 0)), (fun _ => 0)) [16, 0, 1, 2, 3, 4, 5, 6, 7, 8, 9, 10, 11, 12, 13, 17, 18, 19, 20, 14, 15] rfl rfl rfl (Nat.le_of_ble_eq_true rfl) (Nat.le_of_ble_eq_true rfl) (show iR (i 66) (-1) 11 from (hI 66))
  · have f_173_1 : iR x1 11 11 := iR_c c_6 (by decide +kernel)
    refine lv_tableIn (off := 167) (tgt := 173) hx hb dX7_has_6 (by rw [c_6]; decide) (by rw [c_6]; decide) (by rw [c_6]; decide +kernel) (by decide +kernel) ?_
    refine lv_aload_n hx hb dX7_has_173 rfl (lv_at hl 0 rfl) ?_
    refine k_get (D := (dC, dI)) (ci := 7) (v := .ref (r 53)) (C := RX7) (T := TX7) (N := 92) hx hb hts hinX7 hown hK hP 16 rfl rfl 53 (by decide) w_9 rfl rfl dX7_has_174 ?_
    refine lv_iconst (v := 0) hx hb dX7_has_177 (by decide +kernel) ?_
    refine k_iald (v := (f53 0)) hx hb hK hP 14 0 0 rfl rfl rfl (Nat.le_of_ble_eq_true rfl) (Nat.le_of_ble_eq_true rfl) rfl dX7_has_178 ?_
    have f_178_2 : iR (f53 0) 0 50 := hf53 _
    exact k_ri B hP hD hS dX7_has_179 ((fun k9 => match k9 with | 0 => (i 66) | _ => 0), (fun _ => 0), (fun _ => (fun _ => 0)), (fun k9 => match k9 with | 0 => g61 | _ => (fun _ => 0)), (fun _ => 0)) [16, 0, 1, 2, 3, 4, 5, 6, 7, 8, 9, 10, 11, 12, 13, 17, 18, 19, 20, 14, 15] rfl rfl rfl (Nat.le_of_ble_eq_true rfl) (Nat.le_of_ble_eq_true rfl) (show iR (i 66) (-1) 11 from (hI 66))
  · have f_180_1 : iR x1 12 12 := iR_c c_6 (by decide +kernel)
    refine lv_tableIn (off := 174) (tgt := 180) hx hb dX7_has_6 (by rw [c_6]; decide) (by rw [c_6]; decide) (by rw [c_6]; decide +kernel) (by decide +kernel) ?_
    refine lv_aload_n hx hb dX7_has_180 rfl (lv_at hl 0 rfl) ?_
    have f_181_2 : iR (i 59) 0 20 := hI 59
    refine k_get (D := (dC, dI)) (ci := 7) (v := .int (i 59)) (C := RX7) (T := TX7) (N := 92) hx hb hts hinX7 hown hK hP 16 rfl rfl 59 (by decide) w_10 rfl rfl dX7_has_181 ?_
    exact k_ri B hP hD hS dX7_has_184 ((fun k9 => match k9 with | 0 => (i 66) | _ => 0), (fun _ => 0), (fun _ => (fun _ => 0)), (fun k9 => match k9 with | 0 => g61 | _ => (fun _ => 0)), (fun _ => 0)) [16, 0, 1, 2, 3, 4, 5, 6, 7, 8, 9, 10, 11, 12, 13, 17, 18, 19, 20, 14, 15] rfl rfl rfl (Nat.le_of_ble_eq_true rfl) (Nat.le_of_ble_eq_true rfl) (show iR (i 66) (-1) 11 from (hI 66))
  · have f_185_1 : iR x1 13 13 := iR_c c_6 (by decide +kernel)
    refine lv_tableIn (off := 179) (tgt := 185) hx hb dX7_has_6 (by rw [c_6]; decide) (by rw [c_6]; decide) (by rw [c_6]; decide +kernel) (by decide +kernel) ?_
    refine lv_aload_n hx hb dX7_has_185 rfl (lv_at hl 0 rfl) ?_
    refine k_get (D := (dC, dI)) (ci := 7) (v := .long (j 60)) (C := RX7) (T := TX7) (N := 92) hx hb hts hinX7 hown hK hP 16 rfl rfl 60 (by decide) w_11 rfl rfl dX7_has_186 ?_
    refine lv_l2i (v := (j 60).toInt32) hx hb dX7_has_189 rfl ?_
    refine lv_topi (fun y_189 ey_189 => ?_)
    have f_189_2 : iR y_189 0 2147483647 := iR_l2i ey_189 hJ60 (by decide +kernel)
    exact k_ri B hP hD hS dX7_has_190 ((fun k9 => match k9 with | 0 => (i 66) | _ => 0), (fun _ => 0), (fun _ => (fun _ => 0)), (fun k9 => match k9 with | 0 => g61 | _ => (fun _ => 0)), (fun _ => 0)) [16, 0, 1, 2, 3, 4, 5, 6, 7, 8, 9, 10, 11, 12, 13, 17, 18, 19, 20, 14, 15] rfl rfl rfl (Nat.le_of_ble_eq_true rfl) (Nat.le_of_ble_eq_true rfl) (show iR (i 66) (-1) 11 from (hI 66))
  · refine lv_tableOut (tgt := 191) hx hb dX7_has_6 (by omega) (by decide +kernel) ?_
    refine lv_iconst (v := (-1)) hx hb dX7_has_191 (by decide +kernel) ?_
    exact k_ri B hP hD hS dX7_has_192 ((fun k9 => match k9 with | 0 => (i 66) | _ => 0), (fun _ => 0), (fun _ => (fun _ => 0)), (fun k9 => match k9 with | 0 => g61 | _ => (fun _ => 0)), (fun _ => 0)) [16, 0, 1, 2, 3, 4, 5, 6, 7, 8, 9, 10, 11, 12, 13, 17, 18, 19, 20, 14, 15] rfl rfl rfl (Nat.le_of_ble_eq_true rfl) (Nat.le_of_ble_eq_true rfl) (show iR (i 66) (-1) 11 from (hI 66))
set_option maxHeartbeats 8000000 in
set_option maxRecDepth 100000 in
theorem s_X7_letter_v0 (l : Launch) (dC : Nat → ClassId) (dI : Nat → Nat → Nat) (cI cJ cZ cM : ClassId) (h : Nat) (r : Nat → Nat) (i : Nat → Int32) (j : Nat → Int64) (x1 : Int32) (x2 : Int32) (x3 : Int32) (f14 : Nat → Int32) (f18 : Nat → Int32) (g34 : Nat → Int64) (g35 : Nat → Int64) (hI : mR i) (hf14 : aR f14 0 10) (hf18 : aR f18 0 12) : k_Mi l yX7_letter wsX7_letter ({ frames := 2, cells := 0, slots := 0, locals := 63 }) (dC, dI) vwCl (tyy cI cJ cZ cM) [(h, .inr (7, oM r i j)), ((r 14), .inl (cI, 2, .inl f14)), ((r 18), .inl (cI, 2, .inl f18)), ((r 34), .inl (cJ, 20, .inr (.inl g34))), ((r 35), .inl (cJ, 24, .inr (.inl g35)))] [.ref h, .int x1, .int x2, .int x3] 0 0 (fun (u9 : Unit) => [(h, .inr (7, oM r i j)), ((r 14), .inl (cI, 2, .inl f14)), ((r 18), .inl (cI, 2, .inl f18)), ((r 34), .inl (cJ, 20, .inr (.inl g34))), ((r 35), .inl (cJ, 24, .inr (.inl g35)))]) (fun (r9 : Int32) (u9 : Unit) => (iR r9 (-96) 159) ∧ (LMR (f14 (i 13).toNatClampNeg) (f18 (i 13).toNatClampNeg) g34 g35 (i 13).toNatClampNeg x1 x2 x3 r9)) := by
  refine fun sz => k_enter (cc := cX7_letter) (maxL := 9) (ret := some (.int)) (Qc := fun A => va_Qi (fun (r9 : Int32) (u9 : Unit) => (iR r9 (-96) 159) ∧ (LMR (f14 (i 13).toNatClampNeg) (f18 (i 13).toNatClampNeg) g34 g35 (i 13).toNatClampNeg x1 x2 x3 r9)) (fun u => k_B (dC, dI) vwCl (tyy cI cJ cZ cM) A ((fun (u9 : Unit) => [(h, .inr (7, oM r i j)), ((r 14), .inl (cI, 2, .inl f14)), ((r 18), .inl (cI, 2, .inl f18)), ((r 34), .inl (cJ, 20, .inr (.inl g34))), ((r 35), .inl (cJ, 24, .inr (.inl g35)))]) u)) A) sz (by decide +kernel) rfl (Nat.le_of_ble_eq_true rfl) (fun p e s m args below meth c A ls H locs B hP hD hS hl => ?_)
  obtain ⟨hx, hb, hml, hown, hts, hr, hlk, hnm, hK, hA, hN, hC⟩ := id B
  have hown : s.vm.findClass RX7 = some m.cls := hown
  have hl : lv_has ls 9 [(0, .ref h), (1, .int x1), (2, .int x2), (3, .int x3)] := hl
  have w_0 : (Cond.fieldLink RX7 51 "WishSeaModel" "bank" "I").before args s = true := hts _ (List.mem_of_getElem? (i := 1) rfl)
  have w_1 : (Cond.constantLong RX7 542 (255)).before args s = true := hts _ (List.mem_of_getElem? (i := 2) rfl)
  have hinX7 : ∀ w ∈ u_ws RX7 TX7 92, w ∈ wsX7_letter := fun _ h => List.mem_cons_of_mem _ (List.mem_append_right _ h)
  refine lv_iload_n hx hb dX7_letter_0 rfl (lv_at hl 1 rfl) ?_
  refine lv_iconst (v := 0) hx hb dX7_letter_1 (by decide +kernel) ?_
  refine lv_iconst (v := 1) hx hb dX7_letter_2 (by decide +kernel) ?_
  refine k_ci (wc := []) (wr := [(h, .inr (7, oM r i j)), ((r 14), .inl (cI, 2, .inl f14)), ((r 18), .inl (cI, 2, .inl f18)), ((r 34), .inl (cJ, 20, .inr (.inl g34))), ((r 35), .inl (cJ, 24, .inr (.inl g35)))]) (fun hPc hDc hFc => va_runS (As := [.int x1, .int 0, .int 1]) (rest := []) ⟨hx, hb, hml, hown, hts⟩ (s_X7_is_v0 l dC dI cI cJ cZ cM x1 0 1 H.size) (va_cwS 3 hts gX7_letter_X7_is rfl rfl rfl (by decide +kernel) ⟨(Nat.le_of_ble_eq_true rfl), (Nat.le_of_ble_eq_true rfl)⟩) (k_pS hPc hDc hK hN hC hS hFc) rfl rfl hl.1 rfl (lv_room (Nat.le_of_ble_eq_true rfl)) dX7_letter_3 ⟨(Nat.le_of_ble_eq_true rfl), (Nat.le_of_ble_eq_true rfl)⟩) hP hD hS hA [] [0, 1, 2, 3, 4] rfl rfl rfl rfl (by decide) (fun _ => rfl) 0 0 rfl rfl (fun r_3 u_3 H locs hw hP hD hS => ?_)
  obtain ⟨g_3_0, g_3_1, g_3_2⟩ := hw
  have hP : va_P (dC, dI) vwCl [(h, .inr (7, oM r i j)), ((r 14), .inl (cI, 2, .inl f14)), ((r 18), .inl (cI, 2, .inl f18)), ((r 34), .inl (cJ, 20, .inr (.inl g34))), ((r 35), .inl (cJ, 24, .inr (.inl g35)))] H := hP
  have hD : va_D A [(h, .inr (7, oM r i j)), ((r 14), .inl (cI, 2, .inl f14)), ((r 18), .inl (cI, 2, .inl f18)), ((r 34), .inl (cJ, 20, .inr (.inl g34))), ((r 35), .inl (cJ, 24, .inr (.inl g35)))] := hD
  have g_3_1 : r_3 = bI (decide (0 ≤ x1 ∧ x1 ≤ 1)) := g_3_1
  have g_3_2 : (r_3 = 0) ∨ ((0 ≤ x1) ∧ (x1 ≤ 1)) := g_3_2
  refine lv_if_eq (tgt := 37) hx hb dX7_letter_6 (by decide) (fun c_6 => ?_) (fun c_6 => ?_)
  · have c_6 : r_3 = 0 := c_6
    have f_37_1 : iR r_3 0 0 := iR_eqL c_6 g_3_0 (iR_c (n := 0) (a := 0) (b := 0) (by decide +kernel) (by decide +kernel)) (by decide +kernel)
    refine lv_iconst (v := (-1)) hx hb dX7_letter_37 (by decide +kernel) ?_
    exact k_ri B hP hD hS dX7_letter_38 () [0, 1, 2, 3, 4] rfl rfl rfl (Nat.le_of_ble_eq_true rfl) (Nat.le_of_ble_eq_true rfl) ⟨(show iR (-1) (-96) 159 from (iR_c (n := (-1)) (a := (-96)) (b := 159) (by decide +kernel) (by decide +kernel))), (show LMR (f14 (i 13).toNatClampNeg) (f18 (i 13).toNatClampNeg) g34 g35 (i 13).toNatClampNeg x1 x2 x3 (-1) from (lm_na (bI_f g_3_1 c_6)))⟩
  · have c_6 : ¬ r_3 = 0 := c_6
    have f_9_1 : iR r_3 1 1 := iR_neL c_6 g_3_0 (iR_c (n := 0) (a := 0) (b := 0) (by decide +kernel) (by decide +kernel)) (by decide +kernel)
    obtain ⟨d_6_1_0, d_6_1_1⟩ := g_3_2.resolve_left c_6
    have f_9_2 : iR x1 0 2147483647 := iR_leR d_6_1_0 (iR_c (n := 0) (a := 0) (b := 0) (by decide +kernel) (by decide +kernel)) (iR_top _) (by decide +kernel)
    have f_9_3 : iR x1 0 1 := iR_leL d_6_1_1 f_9_2 (iR_c (n := 1) (a := 1) (b := 1) (by decide +kernel) (by decide +kernel)) (by decide +kernel)
    rcases (show x1.toInt = 0 ∨ x1.toInt = 1 by have q9 := f_9_3; unfold iR at q9; omega) with c_9 | c_9
    · obtain rfl : x1 = 0 := k_eqL (by decide +kernel) c_9
      refine lv_iload_n hx hb dX7_letter_9 rfl (lv_at hl 2 rfl) ?_
      refine lv_iconst (v := 0) hx hb dX7_letter_10 (by decide +kernel) ?_
      refine lv_aload_n hx hb dX7_letter_11 rfl (lv_at hl 0 rfl) ?_
      refine lv_aload_n hx hb dX7_letter_12 rfl (lv_at hl 0 rfl) ?_
      have f_13v0_4 : iR (i 13) 0 1 := hI 13
      refine k_get (D := (dC, dI)) (ci := 7) (v := .int (i 13)) (C := RX7) (T := TX7) (N := 92) hx hb hts hinX7 hown hK hP 0 rfl rfl 13 (by decide) w_0 rfl rfl dX7_letter_13 ?_
      refine lv_iload_n hx hb dX7_letter_16 rfl (lv_at hl 1 rfl) ?_
      refine k_ci (wc := [(h, .inr (7, oM r i j)), ((r 14), .inl (cI, 2, .inl f14))]) (wr := [((r 18), .inl (cI, 2, .inl f18)), ((r 34), .inl (cJ, 20, .inr (.inl g34))), ((r 35), .inl (cJ, 24, .inr (.inl g35)))]) (fun hPc hDc hFc => va_runV (As := [.int (i 13), .int 0]) (rest := [.int 0, .int x2]) ⟨hx, hb, hml, hown, hts⟩ (s_X7_manyOf_v0 l dC dI cI cJ cZ cM h r i j (i 13) f14 f_13v0_4 hI hf14 H.size) (cwV 2 hts gX7_letter_X7_manyOf rfl rfl rfl (by decide +kernel) ⟨(Nat.le_of_ble_eq_true rfl), (Nat.le_of_ble_eq_true rfl)⟩) (k_pV hPc hDc hK hN hC hS hFc hP (q0 := 0) (ci := 7) rfl rfl) rfl rfl hl.1 rfl (lv_room (Nat.le_of_ble_eq_true rfl)) dX7_letter_17 ⟨(Nat.le_of_ble_eq_true rfl), (Nat.le_of_ble_eq_true rfl)⟩) hP hD hS hA [0, 1] [2, 3, 4] rfl rfl rfl rfl (by decide) (fun _ => rfl) 0 0 rfl rfl (fun r_17v0 u_17v0 H locs hw hP hD hS => ?_)
      have g_17v0_0 := hw
      obtain rfl : (f14 (i 13).toNatClampNeg) = r_17v0 := g_17v0_0.symm
      have hP : va_P (dC, dI) vwCl [((r 18), .inl (cI, 2, .inl f18)), ((r 34), .inl (cJ, 20, .inr (.inl g34))), ((r 35), .inl (cJ, 24, .inr (.inl g35))), (h, .inr (7, oM r i j)), ((r 14), .inl (cI, 2, .inl f14))] H := hP
      have hD : va_D A [((r 18), .inl (cI, 2, .inl f18)), ((r 34), .inl (cJ, 20, .inr (.inl g34))), ((r 35), .inl (cJ, 24, .inr (.inl g35))), (h, .inr (7, oM r i j)), ((r 14), .inl (cI, 2, .inl f14))] := hD
      refine lv_iconst (v := 1) hx hb dX7_letter_20 (by decide +kernel) ?_
      refine lv_isub hx hb dX7_letter_21 ?_
      refine lv_topi (fun y_21v0 ey_21v0 => ?_)
      have xy_21v0 : y_21v0.toInt = (f14 (i 13).toNatClampNeg).toInt - 1 := i_sub ey_21v0 (show iR (f14 (i 13).toNatClampNeg) 0 10 from hf14 _) (iR_c (n := 1) (a := 1) (b := 1) (by decide +kernel) (by decide +kernel)) (by decide +kernel)
      have f_21v0_5 : iR y_21v0 (-1) 9 := iR_sub ey_21v0 (show iR (f14 (i 13).toNatClampNeg) 0 10 from hf14 _) (iR_c (n := 1) (a := 1) (b := 1) (by decide +kernel) (by decide +kernel)) (by decide +kernel)
      refine k_ci (wc := []) (wr := [((r 18), .inl (cI, 2, .inl f18)), ((r 34), .inl (cJ, 20, .inr (.inl g34))), ((r 35), .inl (cJ, 24, .inr (.inl g35))), (h, .inr (7, oM r i j)), ((r 14), .inl (cI, 2, .inl f14))]) (fun hPc hDc hFc => va_runS (As := [.int x2, .int 0, .int y_21v0]) (rest := []) ⟨hx, hb, hml, hown, hts⟩ (s_X7_is_v0 l dC dI cI cJ cZ cM x2 0 y_21v0 H.size) (va_cwS 3 hts gX7_letter_X7_is rfl rfl rfl (by decide +kernel) ⟨(Nat.le_of_ble_eq_true rfl), (Nat.le_of_ble_eq_true rfl)⟩) (k_pS hPc hDc hK hN hC hS hFc) rfl rfl hl.1 rfl (lv_room (Nat.le_of_ble_eq_true rfl)) dX7_letter_22 ⟨(Nat.le_of_ble_eq_true rfl), (Nat.le_of_ble_eq_true rfl)⟩) hP hD hS hA [] [0, 1, 2, 3, 4] rfl rfl rfl rfl (by decide) (fun _ => rfl) 0 0 rfl rfl (fun r_22v0 u_22v0 H locs hw hP hD hS => ?_)
      obtain ⟨g_22v0_0, g_22v0_1, g_22v0_2⟩ := hw
      have hP : va_P (dC, dI) vwCl [((r 18), .inl (cI, 2, .inl f18)), ((r 34), .inl (cJ, 20, .inr (.inl g34))), ((r 35), .inl (cJ, 24, .inr (.inl g35))), (h, .inr (7, oM r i j)), ((r 14), .inl (cI, 2, .inl f14))] H := hP
      have hD : va_D A [((r 18), .inl (cI, 2, .inl f18)), ((r 34), .inl (cJ, 20, .inr (.inl g34))), ((r 35), .inl (cJ, 24, .inr (.inl g35))), (h, .inr (7, oM r i j)), ((r 14), .inl (cI, 2, .inl f14))] := hD
      have g_22v0_1 : r_22v0 = bI (decide (0 ≤ x2 ∧ x2 ≤ y_21v0)) := g_22v0_1
      have g_22v0_2 : (r_22v0 = 0) ∨ ((0 ≤ x2) ∧ (x2 ≤ y_21v0)) := g_22v0_2
      refine lv_if_eq (tgt := 37) hx hb dX7_letter_25 (by decide) (fun c_25v0 => ?_) (fun c_25v0 => ?_)
      · have c_25v0 : r_22v0 = 0 := c_25v0
        have f_37v0_6 : iR r_22v0 0 0 := iR_eqL c_25v0 g_22v0_0 (iR_c (n := 0) (a := 0) (b := 0) (by decide +kernel) (by decide +kernel)) (by decide +kernel)
        refine lv_iconst (v := (-1)) hx hb dX7_letter_37 (by decide +kernel) ?_
        exact k_ri B hP hD hS dX7_letter_38 () [3, 4, 0, 1, 2] rfl rfl rfl (Nat.le_of_ble_eq_true rfl) (Nat.le_of_ble_eq_true rfl) ⟨(show iR (-1) (-96) 159 from (iR_c (n := (-1)) (a := (-96)) (b := 159) (by decide +kernel) (by decide +kernel))), (show LMR (f14 (i 13).toNatClampNeg) (f18 (i 13).toNatClampNeg) g34 g35 (i 13).toNatClampNeg 0 x2 x3 (-1) from (lm_n0 (bI_f g_22v0_1 c_25v0) ey_21v0 (show iR (f14 (i 13).toNatClampNeg) 0 10 from hf14 _)))⟩
      · have c_25v0 : ¬ r_22v0 = 0 := c_25v0
        have f_28v0_6 : iR r_22v0 1 1 := iR_neL c_25v0 g_22v0_0 (iR_c (n := 0) (a := 0) (b := 0) (by decide +kernel) (by decide +kernel)) (by decide +kernel)
        obtain ⟨d_25v0_2_0, d_25v0_2_1⟩ := g_22v0_2.resolve_left c_25v0
        have f_28v0_7 : iR x2 0 2147483647 := iR_leR d_25v0_2_0 (iR_c (n := 0) (a := 0) (b := 0) (by decide +kernel) (by decide +kernel)) (iR_top _) (by decide +kernel)
        have f_28v0_8 : iR x2 0 9 := iR_leL d_25v0_2_1 f_28v0_7 f_21v0_5 (by decide +kernel)
        have f_28v0_9 : iR y_21v0 0 9 := iR_leR d_25v0_2_1 f_28v0_7 f_21v0_5 (by decide +kernel)
        refine lv_iload_n hx hb dX7_letter_28 rfl (lv_at hl 3 rfl) ?_
        refine lv_iconst (v := 0) hx hb dX7_letter_29 (by decide +kernel) ?_
        refine lv_iconst (v := 5) hx hb dX7_letter_30 (by decide +kernel) ?_
        refine k_ci (wc := []) (wr := [((r 18), .inl (cI, 2, .inl f18)), ((r 34), .inl (cJ, 20, .inr (.inl g34))), ((r 35), .inl (cJ, 24, .inr (.inl g35))), (h, .inr (7, oM r i j)), ((r 14), .inl (cI, 2, .inl f14))]) (fun hPc hDc hFc => va_runS (As := [.int x3, .int 0, .int 5]) (rest := []) ⟨hx, hb, hml, hown, hts⟩ (s_X7_is_v0 l dC dI cI cJ cZ cM x3 0 5 H.size) (va_cwS 3 hts gX7_letter_X7_is rfl rfl rfl (by decide +kernel) ⟨(Nat.le_of_ble_eq_true rfl), (Nat.le_of_ble_eq_true rfl)⟩) (k_pS hPc hDc hK hN hC hS hFc) rfl rfl hl.1 rfl (lv_room (Nat.le_of_ble_eq_true rfl)) dX7_letter_31 ⟨(Nat.le_of_ble_eq_true rfl), (Nat.le_of_ble_eq_true rfl)⟩) hP hD hS hA [] [0, 1, 2, 3, 4] rfl rfl rfl rfl (by decide) (fun _ => rfl) 0 0 rfl rfl (fun r_31v0 u_31v0 H locs hw hP hD hS => ?_)
        obtain ⟨g_31v0_0, g_31v0_1, g_31v0_2⟩ := hw
        have hP : va_P (dC, dI) vwCl [((r 18), .inl (cI, 2, .inl f18)), ((r 34), .inl (cJ, 20, .inr (.inl g34))), ((r 35), .inl (cJ, 24, .inr (.inl g35))), (h, .inr (7, oM r i j)), ((r 14), .inl (cI, 2, .inl f14))] H := hP
        have hD : va_D A [((r 18), .inl (cI, 2, .inl f18)), ((r 34), .inl (cJ, 20, .inr (.inl g34))), ((r 35), .inl (cJ, 24, .inr (.inl g35))), (h, .inr (7, oM r i j)), ((r 14), .inl (cI, 2, .inl f14))] := hD
        have g_31v0_1 : r_31v0 = bI (decide (0 ≤ x3 ∧ x3 ≤ 5)) := g_31v0_1
        have g_31v0_2 : (r_31v0 = 0) ∨ ((0 ≤ x3) ∧ (x3 ≤ 5)) := g_31v0_2
        refine lv_if_ne (tgt := 39) hx hb dX7_letter_34 (by decide) (fun c_34v0 => ?_) (fun c_34v0 => ?_)
        · have c_34v0 : ¬ r_31v0 = 0 := c_34v0
          have f_39v0_10 : iR r_31v0 1 1 := iR_neL c_34v0 g_31v0_0 (iR_c (n := 0) (a := 0) (b := 0) (by decide +kernel) (by decide +kernel)) (by decide +kernel)
          obtain ⟨d_34v0_3_0, d_34v0_3_1⟩ := g_31v0_2.resolve_left c_34v0
          have f_39v0_11 : iR x3 0 2147483647 := iR_leR d_34v0_3_0 (iR_c (n := 0) (a := 0) (b := 0) (by decide +kernel) (by decide +kernel)) (iR_top _) (by decide +kernel)
          have f_39v0_12 : iR x3 0 5 := iR_leL d_34v0_3_1 f_39v0_11 (iR_c (n := 5) (a := 5) (b := 5) (by decide +kernel) (by decide +kernel)) (by decide +kernel)
          refine lv_aload_n hx hb dX7_letter_39 rfl (lv_at hl 0 rfl) ?_
          refine lv_aload_n hx hb dX7_letter_40 rfl (lv_at hl 0 rfl) ?_
          refine k_get (D := (dC, dI)) (ci := 7) (v := .int (i 13)) (C := RX7) (T := TX7) (N := 92) hx hb hts hinX7 hown hK hP 3 rfl rfl 13 (by decide) w_0 rfl rfl dX7_letter_41 ?_
          refine lv_iload_n hx hb dX7_letter_44 rfl (lv_at hl 1 rfl) ?_
          refine lv_iload_n hx hb dX7_letter_45 rfl (lv_at hl 2 rfl) ?_
          refine k_cl (wc := [(h, .inr (7, oM r i j)), ((r 34), .inl (cJ, 20, .inr (.inl g34)))]) (wr := [((r 18), .inl (cI, 2, .inl f18)), ((r 35), .inl (cJ, 24, .inr (.inl g35))), ((r 14), .inl (cI, 2, .inl f14))]) (fun hPc hDc hFc => va_runV (As := [.int (i 13), .int 0, .int x2]) (rest := []) ⟨hx, hb, hml, hown, hts⟩ (s_X7_nameOf_v0 l dC dI cI cJ cZ cM h r i j (i 13) x2 g34 f_13v0_4 f_28v0_8 hI H.size) (cwV 3 hts gX7_letter_X7_nameOf rfl rfl rfl (by decide +kernel) ⟨(Nat.le_of_ble_eq_true rfl), (Nat.le_of_ble_eq_true rfl)⟩) (k_pV hPc hDc hK hN hC hS hFc hP (q0 := 3) (ci := 7) rfl rfl) rfl rfl hl.1 rfl (lv_room (Nat.le_of_ble_eq_true rfl)) dX7_letter_46 ⟨(Nat.le_of_ble_eq_true rfl), (Nat.le_of_ble_eq_true rfl)⟩) hP hD hS hA [3, 1] [0, 2, 4] rfl rfl rfl rfl (by decide) (fun _ => rfl) 0 0 rfl rfl (fun r_46v0 u_46v0 H locs hw hP hD hS => ?_)
          have g_46v0_0 := hw
          have hP : va_P (dC, dI) vwCl [((r 18), .inl (cI, 2, .inl f18)), ((r 35), .inl (cJ, 24, .inr (.inl g35))), ((r 14), .inl (cI, 2, .inl f14)), (h, .inr (7, oM r i j)), ((r 34), .inl (cJ, 20, .inr (.inl g34)))] H := hP
          have hD : va_D A [((r 18), .inl (cI, 2, .inl f18)), ((r 35), .inl (cJ, 24, .inr (.inl g35))), ((r 14), .inl (cI, 2, .inl f14)), (h, .inr (7, oM r i j)), ((r 34), .inl (cJ, 20, .inr (.inl g34)))] := hD
          have g_46v0_0 : r_46v0 = g34 (10 * (i 13).toNatClampNeg + x2.toNatClampNeg) := g_46v0_0
          refine lv_lstore (lv' := [(4, .long r_46v0), (0, .ref h), (1, .int 0), (2, .int x2), (3, .int x3)]) hx hb dX7_letter_49 hl (by decide) rfl (fun ls hl => ?_)
          refine lv_iconst (v := 0) hx hb dX7_letter_51 (by decide +kernel) ?_
          refine lv_istore (lv' := [(6, .int 0), (4, .long r_46v0), (0, .ref h), (1, .int 0), (2, .int x2), (3, .int x3)]) hx hb dX7_letter_52 hl (by decide) rfl (fun ls hl => ?_)
          refine lv_lload hx hb dX7_letter_54 (lv_at hl 1 rfl) ?_
          have J_58v0 : ∀ (n_58v0 : Nat) (j58v0_L6 : Int32) (j58v0_L7 : Int64) (p58v0_0 : LTL r_46v0 j58v0_L6 j58v0_L7) (hm_58v0 : j58v0_L7.toInt.toNat < n_58v0) (H : Heap) (locs : List Loc) (ls : Array Slot), va_P (dC, dI) vwCl [(h, .inr (7, oM r i j)), ((r 14), .inl (cI, 2, .inl f14)), ((r 18), .inl (cI, 2, .inl f18)), ((r 34), .inl (cJ, 20, .inr (.inl g34))), ((r 35), .inl (cJ, 24, .inr (.inl g35)))] H → va_D A [(h, .inr (7, oM r i j)), ((r 14), .inl (cI, 2, .inl f14)), ((r 18), .inl (cI, 2, .inl f18)), ((r 34), .inl (cJ, 20, .inr (.inl g34))), ((r 35), .inl (cJ, 24, .inr (.inl g35)))] → va_S A s.heap H locs → lv_has ls 9 [(3, .int x3), (4, .long r_46v0), (6, .int j58v0_L6), (7, .long j58v0_L7)] → W p l e ({ frames := 2, cells := 0, slots := 0, locals := 63 }) s m args below meth c H locs 0 0 (MQ below (va_Qi (fun (r9 : Int32) (u9 : Unit) => (iR r9 (-96) 159) ∧ (LMR (f14 (i 13).toNatClampNeg) (f18 (i 13).toNatClampNeg) g34 g35 (i 13).toNatClampNeg 0 x2 x3 r9)) (fun u => k_B (dC, dI) vwCl (tyy cI cJ cZ cM) A ((fun (u9 : Unit) => [(h, .inr (7, oM r i j)), ((r 14), .inl (cI, 2, .inl f14)), ((r 18), .inl (cI, 2, .inl f18)), ((r 34), .inl (cJ, 20, .inr (.inl g34))), ((r 35), .inl (cJ, 24, .inr (.inl g35)))]) u)) A) args s 0 0 A) (F0 m 58 ls []) := by
            intro n_58v0
            induction n_58v0 with
            | zero => intro j58v0_L6 j58v0_L7 p58v0_0 hm_58v0; exact absurd hm_58v0 (Nat.not_lt_zero _)
            | succ n_58v0 ih_58v0 =>
              intro j58v0_L6 j58v0_L7 p58v0_0 hm_58v0 H locs ls hP hD hS hl
              refine lv_lload hx hb dX7_letter_58 (lv_at hl 3 rfl) ?_
              refine lv_lconst (v := 0) hx hb dX7_letter_60 (by decide +kernel) ?_
              refine W.lcmp hx hb dX7_letter_61 ?_
              refine lv_topi (fun y_61v0 ey_61v0 => ?_)
              refine lv_if_le (tgt := 78) hx hb dX7_letter_62 (by decide) (fun c_62v0 => ?_) (fun c_62v0 => ?_)
              · have c_62v0 : y_61v0 ≤ 0 := c_62v0
                have f_78v0_1 : iR y_61v0 (-2147483648) 0 := iR_leL c_62v0 (iR_top _) (iR_c (n := 0) (a := 0) (b := 0) (by decide +kernel) (by decide +kernel)) (by decide +kernel)
                have lc_62v0 : j58v0_L7 ≤ 0 := l_cmple ey_61v0 c_62v0
                refine lv_iload_n hx hb dX7_letter_78 rfl (lv_at hl 0 rfl) ?_
                refine lv_iload hx hb dX7_letter_79 (lv_at hl 2 rfl) ?_
                refine lv_icmp_lt (tgt := 88) hx hb dX7_letter_81 (by decide) (fun c_81v0 => ?_) (fun c_81v0 => ?_)
                · have c_81v0 : x3 < j58v0_L6 := c_81v0
                  have f_88v0_2 : iR j58v0_L6 1 2147483647 := iR_ltR c_81v0 f_39v0_12 (iR_top _) (by decide +kernel)
                  refine lv_lload hx hb dX7_letter_88 (lv_at hl 1 rfl) ?_
                  refine lv_bipush (v := 8) hx hb dX7_letter_90 (by decide +kernel) ?_
                  refine lv_iload hx hb dX7_letter_92 (lv_at hl 2 rfl) ?_
                  refine lv_iconst (v := 1) hx hb dX7_letter_94 (by decide +kernel) ?_
                  refine lv_isub hx hb dX7_letter_95 ?_
                  refine lv_topi (fun y_95v0 ey_95v0 => ?_)
                  have xy_95v0 : y_95v0.toInt = j58v0_L6.toInt - 1 := i_sub ey_95v0 f_88v0_2 (iR_c (n := 1) (a := 1) (b := 1) (by decide +kernel) (by decide +kernel)) (by decide +kernel)
                  have f_95v0_3 : iR y_95v0 0 2147483646 := iR_sub ey_95v0 f_88v0_2 (iR_c (n := 1) (a := 1) (b := 1) (by decide +kernel) (by decide +kernel)) (by decide +kernel)
                  refine lv_iload_n hx hb dX7_letter_96 rfl (lv_at hl 0 rfl) ?_
                  refine lv_isub hx hb dX7_letter_97 ?_
                  refine lv_topi (fun y_97v0 ey_97v0 => ?_)
                  have xy_97v0 : y_97v0.toInt = y_95v0.toInt - x3.toInt := i_sub ey_97v0 f_95v0_3 f_39v0_12 (by decide +kernel)
                  have f_97v0_4 : iR y_97v0 (-5) 2147483646 := iR_sub ey_97v0 f_95v0_3 f_39v0_12 (by decide +kernel)
                  refine lv_imul hx hb dX7_letter_98 ?_
                  refine lv_topi (fun y_98v0 ey_98v0 => ?_)
                  refine lv_lshr (v := r_46v0 >>> (y_98v0.toInt64 &&& 63)) hx hb dX7_letter_99 rfl ?_
                  refine lv_topl (fun y_99v0 ey_99v0 => ?_)
                  refine lv_ldc2 (v := 255) hx hb hown w_1 dX7_letter_100 ?_
                  refine lv_land hx hb dX7_letter_103 ?_
                  refine lv_topl (fun y_103v0 ey_103v0 => ?_)
                  have f_103v0_5 : lR y_103v0 0 255 := lR_and ey_103v0 (n := 255) (by decide +kernel) (by decide +kernel)
                  refine lv_l2i (v := y_103v0.toInt32) hx hb dX7_letter_104 rfl ?_
                  refine lv_topi (fun y_104v0 ey_104v0 => ?_)
                  have f_104v0_6 : iR y_104v0 0 255 := iR_l2i ey_104v0 f_103v0_5 (by decide +kernel)
                  refine lv_bipush (v := 97) hx hb dX7_letter_105 (by decide +kernel) ?_
                  refine lv_isub hx hb dX7_letter_107 ?_
                  refine lv_topi (fun y_107v0 ey_107v0 => ?_)
                  have xy_107v0 : y_107v0.toInt = y_104v0.toInt - 97 := i_sub ey_107v0 f_104v0_6 (iR_c (n := 97) (a := 97) (b := 97) (by decide +kernel) (by decide +kernel)) (by decide +kernel)
                  have f_107v0_7 : iR y_107v0 (-97) 158 := iR_sub ey_107v0 f_104v0_6 (iR_c (n := 97) (a := 97) (b := 97) (by decide +kernel) (by decide +kernel)) (by decide +kernel)
                  refine lv_iconst (v := 1) hx hb dX7_letter_108 (by decide +kernel) ?_
                  refine lv_iadd hx hb dX7_letter_109 ?_
                  refine lv_topi (fun y_109v0 ey_109v0 => ?_)
                  have xy_109v0 : y_109v0.toInt = y_107v0.toInt + 1 := i_add ey_109v0 f_107v0_7 (iR_c (n := 1) (a := 1) (b := 1) (by decide +kernel) (by decide +kernel)) (by decide +kernel)
                  have f_109v0_8 : iR y_109v0 (-96) 159 := iR_add ey_109v0 f_107v0_7 (iR_c (n := 1) (a := 1) (b := 1) (by decide +kernel) (by decide +kernel)) (by decide +kernel)
                  exact k_ri B hP hD hS dX7_letter_110 () [0, 1, 2, 3, 4] rfl rfl rfl (Nat.le_of_ble_eq_true rfl) (Nat.le_of_ble_eq_true rfl) ⟨(show iR y_109v0 (-96) 159 from f_109v0_8), (show LMR (f14 (i 13).toNatClampNeg) (f18 (i 13).toNatClampNeg) g34 g35 (i 13).toNatClampNeg 0 x2 x3 y_109v0 from (lm_0 (bI_t g_22v0_1 c_25v0) ey_21v0 (show iR (f14 (i 13).toNatClampNeg) 0 10 from hf14 _) f_39v0_12 (by rw [← g_46v0_0]; exact (LTW_1 p58v0_0 lc_62v0 f_39v0_12 c_81v0 ey_95v0 ey_97v0 ey_98v0 ey_99v0 ey_103v0 ey_104v0 ey_107v0 ey_109v0))))⟩
                · have c_81v0 : j58v0_L6 ≤ x3 := i_nlt c_81v0
                  have f_84v0_2 : iR j58v0_L6 (-2147483648) 5 := iR_leL c_81v0 (iR_top _) f_39v0_12 (by decide +kernel)
                  refine lv_iconst (v := 0) hx hb dX7_letter_84 (by decide +kernel) ?_
                  refine lv_goto (tgt := 110) hx hb dX7_letter_85 (by decide) ?_
                  exact k_ri B hP hD hS dX7_letter_110 () [0, 1, 2, 3, 4] rfl rfl rfl (Nat.le_of_ble_eq_true rfl) (Nat.le_of_ble_eq_true rfl) ⟨(show iR 0 (-96) 159 from (iR_c (n := 0) (a := (-96)) (b := 159) (by decide +kernel) (by decide +kernel))), (show LMR (f14 (i 13).toNatClampNeg) (f18 (i 13).toNatClampNeg) g34 g35 (i 13).toNatClampNeg 0 x2 x3 0 from (lm_0 (bI_t g_22v0_1 c_25v0) ey_21v0 (show iR (f14 (i 13).toNatClampNeg) 0 10 from hf14 _) f_39v0_12 (by rw [← g_46v0_0]; exact (LTW_0 p58v0_0 lc_62v0 f_39v0_12 c_81v0))))⟩
              · have c_62v0 : 0 < y_61v0 := i_nle c_62v0
                have f_65v0_1 : iR y_61v0 1 2147483647 := iR_ltR c_62v0 (iR_c (n := 0) (a := 0) (b := 0) (by decide +kernel) (by decide +kernel)) (iR_top _) (by decide +kernel)
                have lc_62v0 : 0 < j58v0_L7 := l_cmpgt ey_61v0 c_62v0
                obtain ⟨y_65v0, ey_65v0⟩ : ∃ y : Int32, y = j58v0_L6 + 1 := ⟨_, rfl⟩
                refine lv_iinc (v := y_65v0) (lv' := [(6, .int y_65v0), (3, .int x3), (4, .long r_46v0), (7, .long j58v0_L7)]) hx hb dX7_letter_65 hl (k := 2) rfl ey_65v0.symm (by decide) rfl (fun ls hl => ?_)
                refine lv_lload hx hb dX7_letter_68 (lv_at hl 3 rfl) ?_
                refine lv_bipush (v := 8) hx hb dX7_letter_70 (by decide +kernel) ?_
                refine lv_lshr (v := j58v0_L7 >>> ((8 : Int32).toInt64 &&& 63)) hx hb dX7_letter_72 rfl ?_
                refine lv_topl (fun y_72v0 ey_72v0 => ?_)
                refine lv_lstore (lv' := [(7, .long y_72v0), (6, .int y_65v0), (3, .int x3), (4, .long r_46v0)]) hx hb dX7_letter_73 hl (by decide) rfl (fun ls hl => ?_)
                refine lv_goto (tgt := 58) hx hb dX7_letter_75 (by decide) ?_
                exact ih_58v0 y_65v0 y_72v0 (show LTL r_46v0 y_65v0 y_72v0 from (LTL_s p58v0_0 lc_62v0 ey_65v0 ey_72v0)) (m_shr8 hm_58v0 ey_72v0 lc_62v0) H locs ls hP hD hS (lv_sub hl [2, 3, 1, 0] rfl)
          refine lv_lstore (lv' := [(7, .long r_46v0), (6, .int 0), (4, .long r_46v0), (0, .ref h), (1, .int 0), (2, .int x2), (3, .int x3)]) hx hb dX7_letter_56 hl (by decide) rfl (fun ls hl => ?_)
          exact J_58v0 _ 0 r_46v0 (show LTL r_46v0 (0 : Int32) r_46v0 from (LTL_0 _)) (Nat.lt_succ_self _) H locs ls (hP.sub [3, 2, 0, 4, 1] rfl) (hD.sub [3, 2, 0, 4, 1] (by decide +kernel) rfl) hS (lv_sub hl [6, 2, 1, 0] rfl)
        · have c_34v0 : r_31v0 = 0 := c_34v0
          have f_37v0_10 : iR r_31v0 0 0 := iR_eqL c_34v0 g_31v0_0 (iR_c (n := 0) (a := 0) (b := 0) (by decide +kernel) (by decide +kernel)) (by decide +kernel)
          refine lv_iconst (v := (-1)) hx hb dX7_letter_37 (by decide +kernel) ?_
          exact k_ri B hP hD hS dX7_letter_38 () [3, 4, 0, 1, 2] rfl rfl rfl (Nat.le_of_ble_eq_true rfl) (Nat.le_of_ble_eq_true rfl) ⟨(show iR (-1) (-96) 159 from (iR_c (n := (-1)) (a := (-96)) (b := 159) (by decide +kernel) (by decide +kernel))), (show LMR (f14 (i 13).toNatClampNeg) (f18 (i 13).toNatClampNeg) g34 g35 (i 13).toNatClampNeg 0 x2 x3 (-1) from (lm_nk (bI_f g_31v0_1 c_34v0)))⟩
    · obtain rfl : x1 = 1 := k_eqL (by decide +kernel) c_9
      refine lv_iload_n hx hb dX7_letter_9 rfl (lv_at hl 2 rfl) ?_
      refine lv_iconst (v := 0) hx hb dX7_letter_10 (by decide +kernel) ?_
      refine lv_aload_n hx hb dX7_letter_11 rfl (lv_at hl 0 rfl) ?_
      refine lv_aload_n hx hb dX7_letter_12 rfl (lv_at hl 0 rfl) ?_
      have f_13v1_4 : iR (i 13) 0 1 := hI 13
      refine k_get (D := (dC, dI)) (ci := 7) (v := .int (i 13)) (C := RX7) (T := TX7) (N := 92) hx hb hts hinX7 hown hK hP 0 rfl rfl 13 (by decide) w_0 rfl rfl dX7_letter_13 ?_
      refine lv_iload_n hx hb dX7_letter_16 rfl (lv_at hl 1 rfl) ?_
      refine k_ci (wc := [(h, .inr (7, oM r i j)), ((r 18), .inl (cI, 2, .inl f18))]) (wr := [((r 14), .inl (cI, 2, .inl f14)), ((r 34), .inl (cJ, 20, .inr (.inl g34))), ((r 35), .inl (cJ, 24, .inr (.inl g35)))]) (fun hPc hDc hFc => va_runV (As := [.int (i 13), .int 1]) (rest := [.int 0, .int x2]) ⟨hx, hb, hml, hown, hts⟩ (s_X7_manyOf_v1 l dC dI cI cJ cZ cM h r i j (i 13) f18 f_13v1_4 hI hf18 H.size) (cwV 2 hts gX7_letter_X7_manyOf rfl rfl rfl (by decide +kernel) ⟨(Nat.le_of_ble_eq_true rfl), (Nat.le_of_ble_eq_true rfl)⟩) (k_pV hPc hDc hK hN hC hS hFc hP (q0 := 0) (ci := 7) rfl rfl) rfl rfl hl.1 rfl (lv_room (Nat.le_of_ble_eq_true rfl)) dX7_letter_17 ⟨(Nat.le_of_ble_eq_true rfl), (Nat.le_of_ble_eq_true rfl)⟩) hP hD hS hA [0, 2] [1, 3, 4] rfl rfl rfl rfl (by decide) (fun _ => rfl) 0 0 rfl rfl (fun r_17v1 u_17v1 H locs hw hP hD hS => ?_)
      have g_17v1_0 := hw
      obtain rfl : (f18 (i 13).toNatClampNeg) = r_17v1 := g_17v1_0.symm
      have hP : va_P (dC, dI) vwCl [((r 14), .inl (cI, 2, .inl f14)), ((r 34), .inl (cJ, 20, .inr (.inl g34))), ((r 35), .inl (cJ, 24, .inr (.inl g35))), (h, .inr (7, oM r i j)), ((r 18), .inl (cI, 2, .inl f18))] H := hP
      have hD : va_D A [((r 14), .inl (cI, 2, .inl f14)), ((r 34), .inl (cJ, 20, .inr (.inl g34))), ((r 35), .inl (cJ, 24, .inr (.inl g35))), (h, .inr (7, oM r i j)), ((r 18), .inl (cI, 2, .inl f18))] := hD
      refine lv_iconst (v := 1) hx hb dX7_letter_20 (by decide +kernel) ?_
      refine lv_isub hx hb dX7_letter_21 ?_
      refine lv_topi (fun y_21v1 ey_21v1 => ?_)
      have xy_21v1 : y_21v1.toInt = (f18 (i 13).toNatClampNeg).toInt - 1 := i_sub ey_21v1 (show iR (f18 (i 13).toNatClampNeg) 0 12 from hf18 _) (iR_c (n := 1) (a := 1) (b := 1) (by decide +kernel) (by decide +kernel)) (by decide +kernel)
      have f_21v1_5 : iR y_21v1 (-1) 11 := iR_sub ey_21v1 (show iR (f18 (i 13).toNatClampNeg) 0 12 from hf18 _) (iR_c (n := 1) (a := 1) (b := 1) (by decide +kernel) (by decide +kernel)) (by decide +kernel)
      refine k_ci (wc := []) (wr := [((r 14), .inl (cI, 2, .inl f14)), ((r 34), .inl (cJ, 20, .inr (.inl g34))), ((r 35), .inl (cJ, 24, .inr (.inl g35))), (h, .inr (7, oM r i j)), ((r 18), .inl (cI, 2, .inl f18))]) (fun hPc hDc hFc => va_runS (As := [.int x2, .int 0, .int y_21v1]) (rest := []) ⟨hx, hb, hml, hown, hts⟩ (s_X7_is_v0 l dC dI cI cJ cZ cM x2 0 y_21v1 H.size) (va_cwS 3 hts gX7_letter_X7_is rfl rfl rfl (by decide +kernel) ⟨(Nat.le_of_ble_eq_true rfl), (Nat.le_of_ble_eq_true rfl)⟩) (k_pS hPc hDc hK hN hC hS hFc) rfl rfl hl.1 rfl (lv_room (Nat.le_of_ble_eq_true rfl)) dX7_letter_22 ⟨(Nat.le_of_ble_eq_true rfl), (Nat.le_of_ble_eq_true rfl)⟩) hP hD hS hA [] [0, 1, 2, 3, 4] rfl rfl rfl rfl (by decide) (fun _ => rfl) 0 0 rfl rfl (fun r_22v1 u_22v1 H locs hw hP hD hS => ?_)
      obtain ⟨g_22v1_0, g_22v1_1, g_22v1_2⟩ := hw
      have hP : va_P (dC, dI) vwCl [((r 14), .inl (cI, 2, .inl f14)), ((r 34), .inl (cJ, 20, .inr (.inl g34))), ((r 35), .inl (cJ, 24, .inr (.inl g35))), (h, .inr (7, oM r i j)), ((r 18), .inl (cI, 2, .inl f18))] H := hP
      have hD : va_D A [((r 14), .inl (cI, 2, .inl f14)), ((r 34), .inl (cJ, 20, .inr (.inl g34))), ((r 35), .inl (cJ, 24, .inr (.inl g35))), (h, .inr (7, oM r i j)), ((r 18), .inl (cI, 2, .inl f18))] := hD
      have g_22v1_1 : r_22v1 = bI (decide (0 ≤ x2 ∧ x2 ≤ y_21v1)) := g_22v1_1
      have g_22v1_2 : (r_22v1 = 0) ∨ ((0 ≤ x2) ∧ (x2 ≤ y_21v1)) := g_22v1_2
      refine lv_if_eq (tgt := 37) hx hb dX7_letter_25 (by decide) (fun c_25v1 => ?_) (fun c_25v1 => ?_)
      · have c_25v1 : r_22v1 = 0 := c_25v1
        have f_37v1_6 : iR r_22v1 0 0 := iR_eqL c_25v1 g_22v1_0 (iR_c (n := 0) (a := 0) (b := 0) (by decide +kernel) (by decide +kernel)) (by decide +kernel)
        refine lv_iconst (v := (-1)) hx hb dX7_letter_37 (by decide +kernel) ?_
        exact k_ri B hP hD hS dX7_letter_38 () [3, 0, 4, 1, 2] rfl rfl rfl (Nat.le_of_ble_eq_true rfl) (Nat.le_of_ble_eq_true rfl) ⟨(show iR (-1) (-96) 159 from (iR_c (n := (-1)) (a := (-96)) (b := 159) (by decide +kernel) (by decide +kernel))), (show LMR (f14 (i 13).toNatClampNeg) (f18 (i 13).toNatClampNeg) g34 g35 (i 13).toNatClampNeg 1 x2 x3 (-1) from (lm_n1 (bI_f g_22v1_1 c_25v1) ey_21v1 (show iR (f18 (i 13).toNatClampNeg) 0 12 from hf18 _)))⟩
      · have c_25v1 : ¬ r_22v1 = 0 := c_25v1
        have f_28v1_6 : iR r_22v1 1 1 := iR_neL c_25v1 g_22v1_0 (iR_c (n := 0) (a := 0) (b := 0) (by decide +kernel) (by decide +kernel)) (by decide +kernel)
        obtain ⟨d_25v1_2_0, d_25v1_2_1⟩ := g_22v1_2.resolve_left c_25v1
        have f_28v1_7 : iR x2 0 2147483647 := iR_leR d_25v1_2_0 (iR_c (n := 0) (a := 0) (b := 0) (by decide +kernel) (by decide +kernel)) (iR_top _) (by decide +kernel)
        have f_28v1_8 : iR x2 0 11 := iR_leL d_25v1_2_1 f_28v1_7 f_21v1_5 (by decide +kernel)
        have f_28v1_9 : iR y_21v1 0 11 := iR_leR d_25v1_2_1 f_28v1_7 f_21v1_5 (by decide +kernel)
        refine lv_iload_n hx hb dX7_letter_28 rfl (lv_at hl 3 rfl) ?_
        refine lv_iconst (v := 0) hx hb dX7_letter_29 (by decide +kernel) ?_
        refine lv_iconst (v := 5) hx hb dX7_letter_30 (by decide +kernel) ?_
        refine k_ci (wc := []) (wr := [((r 14), .inl (cI, 2, .inl f14)), ((r 34), .inl (cJ, 20, .inr (.inl g34))), ((r 35), .inl (cJ, 24, .inr (.inl g35))), (h, .inr (7, oM r i j)), ((r 18), .inl (cI, 2, .inl f18))]) (fun hPc hDc hFc => va_runS (As := [.int x3, .int 0, .int 5]) (rest := []) ⟨hx, hb, hml, hown, hts⟩ (s_X7_is_v0 l dC dI cI cJ cZ cM x3 0 5 H.size) (va_cwS 3 hts gX7_letter_X7_is rfl rfl rfl (by decide +kernel) ⟨(Nat.le_of_ble_eq_true rfl), (Nat.le_of_ble_eq_true rfl)⟩) (k_pS hPc hDc hK hN hC hS hFc) rfl rfl hl.1 rfl (lv_room (Nat.le_of_ble_eq_true rfl)) dX7_letter_31 ⟨(Nat.le_of_ble_eq_true rfl), (Nat.le_of_ble_eq_true rfl)⟩) hP hD hS hA [] [0, 1, 2, 3, 4] rfl rfl rfl rfl (by decide) (fun _ => rfl) 0 0 rfl rfl (fun r_31v1 u_31v1 H locs hw hP hD hS => ?_)
        obtain ⟨g_31v1_0, g_31v1_1, g_31v1_2⟩ := hw
        have hP : va_P (dC, dI) vwCl [((r 14), .inl (cI, 2, .inl f14)), ((r 34), .inl (cJ, 20, .inr (.inl g34))), ((r 35), .inl (cJ, 24, .inr (.inl g35))), (h, .inr (7, oM r i j)), ((r 18), .inl (cI, 2, .inl f18))] H := hP
        have hD : va_D A [((r 14), .inl (cI, 2, .inl f14)), ((r 34), .inl (cJ, 20, .inr (.inl g34))), ((r 35), .inl (cJ, 24, .inr (.inl g35))), (h, .inr (7, oM r i j)), ((r 18), .inl (cI, 2, .inl f18))] := hD
        have g_31v1_1 : r_31v1 = bI (decide (0 ≤ x3 ∧ x3 ≤ 5)) := g_31v1_1
        have g_31v1_2 : (r_31v1 = 0) ∨ ((0 ≤ x3) ∧ (x3 ≤ 5)) := g_31v1_2
        refine lv_if_ne (tgt := 39) hx hb dX7_letter_34 (by decide) (fun c_34v1 => ?_) (fun c_34v1 => ?_)
        · have c_34v1 : ¬ r_31v1 = 0 := c_34v1
          have f_39v1_10 : iR r_31v1 1 1 := iR_neL c_34v1 g_31v1_0 (iR_c (n := 0) (a := 0) (b := 0) (by decide +kernel) (by decide +kernel)) (by decide +kernel)
          obtain ⟨d_34v1_3_0, d_34v1_3_1⟩ := g_31v1_2.resolve_left c_34v1
          have f_39v1_11 : iR x3 0 2147483647 := iR_leR d_34v1_3_0 (iR_c (n := 0) (a := 0) (b := 0) (by decide +kernel) (by decide +kernel)) (iR_top _) (by decide +kernel)
          have f_39v1_12 : iR x3 0 5 := iR_leL d_34v1_3_1 f_39v1_11 (iR_c (n := 5) (a := 5) (b := 5) (by decide +kernel) (by decide +kernel)) (by decide +kernel)
          refine lv_aload_n hx hb dX7_letter_39 rfl (lv_at hl 0 rfl) ?_
          refine lv_aload_n hx hb dX7_letter_40 rfl (lv_at hl 0 rfl) ?_
          refine k_get (D := (dC, dI)) (ci := 7) (v := .int (i 13)) (C := RX7) (T := TX7) (N := 92) hx hb hts hinX7 hown hK hP 3 rfl rfl 13 (by decide) w_0 rfl rfl dX7_letter_41 ?_
          refine lv_iload_n hx hb dX7_letter_44 rfl (lv_at hl 1 rfl) ?_
          refine lv_iload_n hx hb dX7_letter_45 rfl (lv_at hl 2 rfl) ?_
          refine k_cl (wc := [(h, .inr (7, oM r i j)), ((r 35), .inl (cJ, 24, .inr (.inl g35)))]) (wr := [((r 14), .inl (cI, 2, .inl f14)), ((r 34), .inl (cJ, 20, .inr (.inl g34))), ((r 18), .inl (cI, 2, .inl f18))]) (fun hPc hDc hFc => va_runV (As := [.int (i 13), .int 1, .int x2]) (rest := []) ⟨hx, hb, hml, hown, hts⟩ (s_X7_nameOf_v1 l dC dI cI cJ cZ cM h r i j (i 13) x2 g35 f_13v1_4 f_28v1_8 hI H.size) (cwV 3 hts gX7_letter_X7_nameOf rfl rfl rfl (by decide +kernel) ⟨(Nat.le_of_ble_eq_true rfl), (Nat.le_of_ble_eq_true rfl)⟩) (k_pV hPc hDc hK hN hC hS hFc hP (q0 := 3) (ci := 7) rfl rfl) rfl rfl hl.1 rfl (lv_room (Nat.le_of_ble_eq_true rfl)) dX7_letter_46 ⟨(Nat.le_of_ble_eq_true rfl), (Nat.le_of_ble_eq_true rfl)⟩) hP hD hS hA [3, 2] [0, 1, 4] rfl rfl rfl rfl (by decide) (fun _ => rfl) 0 0 rfl rfl (fun r_46v1 u_46v1 H locs hw hP hD hS => ?_)
          have g_46v1_0 := hw
          have hP : va_P (dC, dI) vwCl [((r 14), .inl (cI, 2, .inl f14)), ((r 34), .inl (cJ, 20, .inr (.inl g34))), ((r 18), .inl (cI, 2, .inl f18)), (h, .inr (7, oM r i j)), ((r 35), .inl (cJ, 24, .inr (.inl g35)))] H := hP
          have hD : va_D A [((r 14), .inl (cI, 2, .inl f14)), ((r 34), .inl (cJ, 20, .inr (.inl g34))), ((r 18), .inl (cI, 2, .inl f18)), (h, .inr (7, oM r i j)), ((r 35), .inl (cJ, 24, .inr (.inl g35)))] := hD
          have g_46v1_0 : r_46v1 = g35 (12 * (i 13).toNatClampNeg + x2.toNatClampNeg) := g_46v1_0
          refine lv_lstore (lv' := [(4, .long r_46v1), (0, .ref h), (1, .int 1), (2, .int x2), (3, .int x3)]) hx hb dX7_letter_49 hl (by decide) rfl (fun ls hl => ?_)
          refine lv_iconst (v := 0) hx hb dX7_letter_51 (by decide +kernel) ?_
          refine lv_istore (lv' := [(6, .int 0), (4, .long r_46v1), (0, .ref h), (1, .int 1), (2, .int x2), (3, .int x3)]) hx hb dX7_letter_52 hl (by decide) rfl (fun ls hl => ?_)
          refine lv_lload hx hb dX7_letter_54 (lv_at hl 1 rfl) ?_
          have J_58v1 : ∀ (n_58v1 : Nat) (j58v1_L6 : Int32) (j58v1_L7 : Int64) (p58v1_0 : LTL r_46v1 j58v1_L6 j58v1_L7) (hm_58v1 : j58v1_L7.toInt.toNat < n_58v1) (H : Heap) (locs : List Loc) (ls : Array Slot), va_P (dC, dI) vwCl [(h, .inr (7, oM r i j)), ((r 14), .inl (cI, 2, .inl f14)), ((r 18), .inl (cI, 2, .inl f18)), ((r 34), .inl (cJ, 20, .inr (.inl g34))), ((r 35), .inl (cJ, 24, .inr (.inl g35)))] H → va_D A [(h, .inr (7, oM r i j)), ((r 14), .inl (cI, 2, .inl f14)), ((r 18), .inl (cI, 2, .inl f18)), ((r 34), .inl (cJ, 20, .inr (.inl g34))), ((r 35), .inl (cJ, 24, .inr (.inl g35)))] → va_S A s.heap H locs → lv_has ls 9 [(3, .int x3), (4, .long r_46v1), (6, .int j58v1_L6), (7, .long j58v1_L7)] → W p l e ({ frames := 2, cells := 0, slots := 0, locals := 63 }) s m args below meth c H locs 0 0 (MQ below (va_Qi (fun (r9 : Int32) (u9 : Unit) => (iR r9 (-96) 159) ∧ (LMR (f14 (i 13).toNatClampNeg) (f18 (i 13).toNatClampNeg) g34 g35 (i 13).toNatClampNeg 1 x2 x3 r9)) (fun u => k_B (dC, dI) vwCl (tyy cI cJ cZ cM) A ((fun (u9 : Unit) => [(h, .inr (7, oM r i j)), ((r 14), .inl (cI, 2, .inl f14)), ((r 18), .inl (cI, 2, .inl f18)), ((r 34), .inl (cJ, 20, .inr (.inl g34))), ((r 35), .inl (cJ, 24, .inr (.inl g35)))]) u)) A) args s 0 0 A) (F0 m 58 ls []) := by
            intro n_58v1
            induction n_58v1 with
            | zero => intro j58v1_L6 j58v1_L7 p58v1_0 hm_58v1; exact absurd hm_58v1 (Nat.not_lt_zero _)
            | succ n_58v1 ih_58v1 =>
              intro j58v1_L6 j58v1_L7 p58v1_0 hm_58v1 H locs ls hP hD hS hl
              refine lv_lload hx hb dX7_letter_58 (lv_at hl 3 rfl) ?_
              refine lv_lconst (v := 0) hx hb dX7_letter_60 (by decide +kernel) ?_
              refine W.lcmp hx hb dX7_letter_61 ?_
              refine lv_topi (fun y_61v1 ey_61v1 => ?_)
              refine lv_if_le (tgt := 78) hx hb dX7_letter_62 (by decide) (fun c_62v1 => ?_) (fun c_62v1 => ?_)
              · have c_62v1 : y_61v1 ≤ 0 := c_62v1
                have f_78v1_1 : iR y_61v1 (-2147483648) 0 := iR_leL c_62v1 (iR_top _) (iR_c (n := 0) (a := 0) (b := 0) (by decide +kernel) (by decide +kernel)) (by decide +kernel)
                have lc_62v1 : j58v1_L7 ≤ 0 := l_cmple ey_61v1 c_62v1
                refine lv_iload_n hx hb dX7_letter_78 rfl (lv_at hl 0 rfl) ?_
                refine lv_iload hx hb dX7_letter_79 (lv_at hl 2 rfl) ?_
                refine lv_icmp_lt (tgt := 88) hx hb dX7_letter_81 (by decide) (fun c_81v1 => ?_) (fun c_81v1 => ?_)
                · have c_81v1 : x3 < j58v1_L6 := c_81v1
                  have f_88v1_2 : iR j58v1_L6 1 2147483647 := iR_ltR c_81v1 f_39v1_12 (iR_top _) (by decide +kernel)
                  refine lv_lload hx hb dX7_letter_88 (lv_at hl 1 rfl) ?_
                  refine lv_bipush (v := 8) hx hb dX7_letter_90 (by decide +kernel) ?_
                  refine lv_iload hx hb dX7_letter_92 (lv_at hl 2 rfl) ?_
                  refine lv_iconst (v := 1) hx hb dX7_letter_94 (by decide +kernel) ?_
                  refine lv_isub hx hb dX7_letter_95 ?_
                  refine lv_topi (fun y_95v1 ey_95v1 => ?_)
                  have xy_95v1 : y_95v1.toInt = j58v1_L6.toInt - 1 := i_sub ey_95v1 f_88v1_2 (iR_c (n := 1) (a := 1) (b := 1) (by decide +kernel) (by decide +kernel)) (by decide +kernel)
                  have f_95v1_3 : iR y_95v1 0 2147483646 := iR_sub ey_95v1 f_88v1_2 (iR_c (n := 1) (a := 1) (b := 1) (by decide +kernel) (by decide +kernel)) (by decide +kernel)
                  refine lv_iload_n hx hb dX7_letter_96 rfl (lv_at hl 0 rfl) ?_
                  refine lv_isub hx hb dX7_letter_97 ?_
                  refine lv_topi (fun y_97v1 ey_97v1 => ?_)
                  have xy_97v1 : y_97v1.toInt = y_95v1.toInt - x3.toInt := i_sub ey_97v1 f_95v1_3 f_39v1_12 (by decide +kernel)
                  have f_97v1_4 : iR y_97v1 (-5) 2147483646 := iR_sub ey_97v1 f_95v1_3 f_39v1_12 (by decide +kernel)
                  refine lv_imul hx hb dX7_letter_98 ?_
                  refine lv_topi (fun y_98v1 ey_98v1 => ?_)
                  refine lv_lshr (v := r_46v1 >>> (y_98v1.toInt64 &&& 63)) hx hb dX7_letter_99 rfl ?_
                  refine lv_topl (fun y_99v1 ey_99v1 => ?_)
                  refine lv_ldc2 (v := 255) hx hb hown w_1 dX7_letter_100 ?_
                  refine lv_land hx hb dX7_letter_103 ?_
                  refine lv_topl (fun y_103v1 ey_103v1 => ?_)
                  have f_103v1_5 : lR y_103v1 0 255 := lR_and ey_103v1 (n := 255) (by decide +kernel) (by decide +kernel)
                  refine lv_l2i (v := y_103v1.toInt32) hx hb dX7_letter_104 rfl ?_
                  refine lv_topi (fun y_104v1 ey_104v1 => ?_)
                  have f_104v1_6 : iR y_104v1 0 255 := iR_l2i ey_104v1 f_103v1_5 (by decide +kernel)
                  refine lv_bipush (v := 97) hx hb dX7_letter_105 (by decide +kernel) ?_
                  refine lv_isub hx hb dX7_letter_107 ?_
                  refine lv_topi (fun y_107v1 ey_107v1 => ?_)
                  have xy_107v1 : y_107v1.toInt = y_104v1.toInt - 97 := i_sub ey_107v1 f_104v1_6 (iR_c (n := 97) (a := 97) (b := 97) (by decide +kernel) (by decide +kernel)) (by decide +kernel)
                  have f_107v1_7 : iR y_107v1 (-97) 158 := iR_sub ey_107v1 f_104v1_6 (iR_c (n := 97) (a := 97) (b := 97) (by decide +kernel) (by decide +kernel)) (by decide +kernel)
                  refine lv_iconst (v := 1) hx hb dX7_letter_108 (by decide +kernel) ?_
                  refine lv_iadd hx hb dX7_letter_109 ?_
                  refine lv_topi (fun y_109v1 ey_109v1 => ?_)
                  have xy_109v1 : y_109v1.toInt = y_107v1.toInt + 1 := i_add ey_109v1 f_107v1_7 (iR_c (n := 1) (a := 1) (b := 1) (by decide +kernel) (by decide +kernel)) (by decide +kernel)
                  have f_109v1_8 : iR y_109v1 (-96) 159 := iR_add ey_109v1 f_107v1_7 (iR_c (n := 1) (a := 1) (b := 1) (by decide +kernel) (by decide +kernel)) (by decide +kernel)
                  exact k_ri B hP hD hS dX7_letter_110 () [0, 1, 2, 3, 4] rfl rfl rfl (Nat.le_of_ble_eq_true rfl) (Nat.le_of_ble_eq_true rfl) ⟨(show iR y_109v1 (-96) 159 from f_109v1_8), (show LMR (f14 (i 13).toNatClampNeg) (f18 (i 13).toNatClampNeg) g34 g35 (i 13).toNatClampNeg 1 x2 x3 y_109v1 from (lm_1 (bI_t g_22v1_1 c_25v1) ey_21v1 (show iR (f18 (i 13).toNatClampNeg) 0 12 from hf18 _) f_39v1_12 (by rw [← g_46v1_0]; exact (LTW_1 p58v1_0 lc_62v1 f_39v1_12 c_81v1 ey_95v1 ey_97v1 ey_98v1 ey_99v1 ey_103v1 ey_104v1 ey_107v1 ey_109v1))))⟩
                · have c_81v1 : j58v1_L6 ≤ x3 := i_nlt c_81v1
                  have f_84v1_2 : iR j58v1_L6 (-2147483648) 5 := iR_leL c_81v1 (iR_top _) f_39v1_12 (by decide +kernel)
                  refine lv_iconst (v := 0) hx hb dX7_letter_84 (by decide +kernel) ?_
                  refine lv_goto (tgt := 110) hx hb dX7_letter_85 (by decide) ?_
                  exact k_ri B hP hD hS dX7_letter_110 () [0, 1, 2, 3, 4] rfl rfl rfl (Nat.le_of_ble_eq_true rfl) (Nat.le_of_ble_eq_true rfl) ⟨(show iR 0 (-96) 159 from (iR_c (n := 0) (a := (-96)) (b := 159) (by decide +kernel) (by decide +kernel))), (show LMR (f14 (i 13).toNatClampNeg) (f18 (i 13).toNatClampNeg) g34 g35 (i 13).toNatClampNeg 1 x2 x3 0 from (lm_1 (bI_t g_22v1_1 c_25v1) ey_21v1 (show iR (f18 (i 13).toNatClampNeg) 0 12 from hf18 _) f_39v1_12 (by rw [← g_46v1_0]; exact (LTW_0 p58v1_0 lc_62v1 f_39v1_12 c_81v1))))⟩
              · have c_62v1 : 0 < y_61v1 := i_nle c_62v1
                have f_65v1_1 : iR y_61v1 1 2147483647 := iR_ltR c_62v1 (iR_c (n := 0) (a := 0) (b := 0) (by decide +kernel) (by decide +kernel)) (iR_top _) (by decide +kernel)
                have lc_62v1 : 0 < j58v1_L7 := l_cmpgt ey_61v1 c_62v1
                obtain ⟨y_65v1, ey_65v1⟩ : ∃ y : Int32, y = j58v1_L6 + 1 := ⟨_, rfl⟩
                refine lv_iinc (v := y_65v1) (lv' := [(6, .int y_65v1), (3, .int x3), (4, .long r_46v1), (7, .long j58v1_L7)]) hx hb dX7_letter_65 hl (k := 2) rfl ey_65v1.symm (by decide) rfl (fun ls hl => ?_)
                refine lv_lload hx hb dX7_letter_68 (lv_at hl 3 rfl) ?_
                refine lv_bipush (v := 8) hx hb dX7_letter_70 (by decide +kernel) ?_
                refine lv_lshr (v := j58v1_L7 >>> ((8 : Int32).toInt64 &&& 63)) hx hb dX7_letter_72 rfl ?_
                refine lv_topl (fun y_72v1 ey_72v1 => ?_)
                refine lv_lstore (lv' := [(7, .long y_72v1), (6, .int y_65v1), (3, .int x3), (4, .long r_46v1)]) hx hb dX7_letter_73 hl (by decide) rfl (fun ls hl => ?_)
                refine lv_goto (tgt := 58) hx hb dX7_letter_75 (by decide) ?_
                exact ih_58v1 y_65v1 y_72v1 (show LTL r_46v1 y_65v1 y_72v1 from (LTL_s p58v1_0 lc_62v1 ey_65v1 ey_72v1)) (m_shr8 hm_58v1 ey_72v1 lc_62v1) H locs ls hP hD hS (lv_sub hl [2, 3, 1, 0] rfl)
          refine lv_lstore (lv' := [(7, .long r_46v1), (6, .int 0), (4, .long r_46v1), (0, .ref h), (1, .int 1), (2, .int x2), (3, .int x3)]) hx hb dX7_letter_56 hl (by decide) rfl (fun ls hl => ?_)
          exact J_58v1 _ 0 r_46v1 (show LTL r_46v1 (0 : Int32) r_46v1 from (LTL_0 _)) (Nat.lt_succ_self _) H locs ls (hP.sub [3, 0, 2, 1, 4] rfl) (hD.sub [3, 0, 2, 1, 4] (by decide +kernel) rfl) hS (lv_sub hl [6, 2, 1, 0] rfl)
        · have c_34v1 : r_31v1 = 0 := c_34v1
          have f_37v1_10 : iR r_31v1 0 0 := iR_eqL c_34v1 g_31v1_0 (iR_c (n := 0) (a := 0) (b := 0) (by decide +kernel) (by decide +kernel)) (by decide +kernel)
          refine lv_iconst (v := (-1)) hx hb dX7_letter_37 (by decide +kernel) ?_
          exact k_ri B hP hD hS dX7_letter_38 () [3, 0, 4, 1, 2] rfl rfl rfl (Nat.le_of_ble_eq_true rfl) (Nat.le_of_ble_eq_true rfl) ⟨(show iR (-1) (-96) 159 from (iR_c (n := (-1)) (a := (-96)) (b := 159) (by decide +kernel) (by decide +kernel))), (show LMR (f14 (i 13).toNatClampNeg) (f18 (i 13).toNatClampNeg) g34 g35 (i 13).toNatClampNeg 1 x2 x3 (-1) from (lm_nk (bI_f g_31v1_1 c_34v1)))⟩
set_option maxHeartbeats 8000000 in
set_option maxRecDepth 100000 in
theorem s_X7_isThing_v0 (l : Launch) (dC : Nat → ClassId) (dI : Nat → Nat → Nat) (cI cJ cZ cM : ClassId) (h : Nat) (r : Nat → Nat) (i : Nat → Int32) (j : Nat → Int64) (x1 : Int32) (f14 : Nat → Int32) (hI : mR i) (hf14 : aR f14 0 10) : k_Mi l yX7_isThing wsX7_isThing ({ frames := 1, cells := 0, slots := 0, locals := 40 }) (dC, dI) vwCl (tyy cI cJ cZ cM) [(h, .inr (7, oM r i j)), ((r 14), .inl (cI, 2, .inl f14))] [.ref h, .int x1] 0 0 (fun (u9 : Unit) => [(h, .inr (7, oM r i j)), ((r 14), .inl (cI, 2, .inl f14))]) (fun (r9 : Int32) (u9 : Unit) => (iR r9 0 1) ∧ ((r9 = 0) ∨ ((0 ≤ x1) ∧ (x1 < (f14 (i 13).toNatClampNeg))))) := by
  refine fun sz => k_enter (cc := cX7_isThing) (maxL := 2) (ret := some (.boolean)) (Qc := fun A => va_Qi (fun (r9 : Int32) (u9 : Unit) => (iR r9 0 1) ∧ ((r9 = 0) ∨ ((0 ≤ x1) ∧ (x1 < (f14 (i 13).toNatClampNeg))))) (fun u => k_B (dC, dI) vwCl (tyy cI cJ cZ cM) A ((fun (u9 : Unit) => [(h, .inr (7, oM r i j)), ((r 14), .inl (cI, 2, .inl f14))]) u)) A) sz (by decide +kernel) rfl (Nat.le_of_ble_eq_true rfl) (fun p e s m args below meth c A ls H locs B hP hD hS hl => ?_)
  obtain ⟨hx, hb, hml, hown, hts, hr, hlk, hnm, hK, hA, hN, hC⟩ := id B
  have hown : s.vm.findClass RX7 = some m.cls := hown
  have hl : lv_has ls 2 [(0, .ref h), (1, .int x1)] := hl
  have w_0 : (Cond.fieldLink RX7 54 "WishSeaModel" "things" "[I").before args s = true := hts _ (List.mem_of_getElem? (i := 1) rfl)
  have w_1 : (Cond.fieldLink RX7 51 "WishSeaModel" "bank" "I").before args s = true := hts _ (List.mem_of_getElem? (i := 2) rfl)
  have hinX7 : ∀ w ∈ u_ws RX7 TX7 92, w ∈ wsX7_isThing := fun _ h => List.mem_cons_of_mem _ (List.mem_append_right _ h)
  refine lv_iload_n hx hb dX7_isThing_0 rfl (lv_at hl 1 rfl) ?_
  have J_21 : ∀   (H : Heap) (locs : List Loc) (ls : Array Slot), va_P (dC, dI) vwCl [(h, .inr (7, oM r i j)), ((r 14), .inl (cI, 2, .inl f14))] H → va_D A [(h, .inr (7, oM r i j)), ((r 14), .inl (cI, 2, .inl f14))] → va_S A s.heap H locs → lv_has ls 2 [] → W p l e ({ frames := 1, cells := 0, slots := 0, locals := 40 }) s m args below meth c H locs 0 0 (MQ below (va_Qi (fun (r9 : Int32) (u9 : Unit) => (iR r9 0 1) ∧ ((r9 = 0) ∨ ((0 ≤ x1) ∧ (x1 < (f14 (i 13).toNatClampNeg))))) (fun u => k_B (dC, dI) vwCl (tyy cI cJ cZ cM) A ((fun (u9 : Unit) => [(h, .inr (7, oM r i j)), ((r 14), .inl (cI, 2, .inl f14))]) u)) A) args s 0 0 A) (F0 m 21 ls []) := by
    intro   H locs ls hP hD hS hl
    refine lv_iconst (v := 0) hx hb dX7_isThing_21 (by decide +kernel) ?_
    exact k_ri B hP hD hS dX7_isThing_22 () [0, 1] rfl rfl rfl (Nat.le_of_ble_eq_true rfl) (Nat.le_of_ble_eq_true rfl) ⟨(show iR 0 0 1 from (iR_c (n := 0) (a := 0) (b := 1) (by decide +kernel) (by decide +kernel))), (show (0 = 0) ∨ ((0 ≤ x1) ∧ (x1 < (f14 (i 13).toNatClampNeg))) from (Or.inl rfl))⟩
  refine lv_if_lt (tgt := 21) hx hb dX7_isThing_1 (by decide) (fun c_1 => ?_) (fun c_1 => ?_)
  · have c_1 : x1 < 0 := c_1
    have f_21_1 : iR x1 (-2147483648) (-1) := iR_ltL c_1 (iR_top _) (iR_c (n := 0) (a := 0) (b := 0) (by decide +kernel) (by decide +kernel)) (by decide +kernel)
    exact J_21   H locs ls hP hD hS (lv_sub hl [] rfl)
  · have c_1 : 0 ≤ x1 := i_nlt c_1
    have f_4_1 : iR x1 0 2147483647 := iR_leR c_1 (iR_c (n := 0) (a := 0) (b := 0) (by decide +kernel) (by decide +kernel)) (iR_top _) (by decide +kernel)
    refine lv_iload_n hx hb dX7_isThing_4 rfl (lv_at hl 1 rfl) ?_
    refine lv_aload_n hx hb dX7_isThing_5 rfl (lv_at hl 0 rfl) ?_
    refine k_get (D := (dC, dI)) (ci := 7) (v := .ref (r 14)) (C := RX7) (T := TX7) (N := 92) hx hb hts hinX7 hown hK hP 0 rfl rfl 14 (by decide) w_0 rfl rfl dX7_isThing_6 ?_
    refine lv_aload_n hx hb dX7_isThing_9 rfl (lv_at hl 0 rfl) ?_
    have f_10_2 : iR (i 13) 0 1 := hI 13
    refine k_get (D := (dC, dI)) (ci := 7) (v := .int (i 13)) (C := RX7) (T := TX7) (N := 92) hx hb hts hinX7 hown hK hP 0 rfl rfl 13 (by decide) w_1 rfl rfl dX7_isThing_10 ?_
    refine va_iald hx hb hK hP 1 0 rfl rfl (iR_vp f_10_2 (by decide +kernel)) dX7_isThing_13 ?_
    have f_13_3 : iR (f14 (i 13).toNatClampNeg) 0 10 := hf14 _
    refine lv_icmp_ge (tgt := 21) hx hb dX7_isThing_14 (by decide) (fun c_14 => ?_) (fun c_14 => ?_)
    · have c_14 : (f14 (i 13).toNatClampNeg) ≤ x1 := c_14
      exact J_21   H locs ls hP hD hS (lv_sub hl [] rfl)
    · have c_14 : x1 < (f14 (i 13).toNatClampNeg) := i_nle c_14
      have f_17_4 : iR x1 0 9 := iR_ltL c_14 f_4_1 f_13_3 (by decide +kernel)
      have f_17_5 : iR (f14 (i 13).toNatClampNeg) 1 10 := iR_ltR c_14 f_4_1 f_13_3 (by decide +kernel)
      refine lv_iconst (v := 1) hx hb dX7_isThing_17 (by decide +kernel) ?_
      refine lv_goto (tgt := 22) hx hb dX7_isThing_18 (by decide) ?_
      exact k_ri B hP hD hS dX7_isThing_22 () [0, 1] rfl rfl rfl (Nat.le_of_ble_eq_true rfl) (Nat.le_of_ble_eq_true rfl) ⟨(show iR 1 0 1 from (iR_c (n := 1) (a := 0) (b := 1) (by decide +kernel) (by decide +kernel))), (show (1 = 0) ∨ ((0 ≤ x1) ∧ (x1 < (f14 (i 13).toNatClampNeg))) from (Or.inr ⟨c_1, c_14⟩))⟩
set_option maxHeartbeats 8000000 in
set_option maxRecDepth 100000 in
theorem s_X7_thing_v0 (l : Launch) (dC : Nat → ClassId) (dI : Nat → Nat → Nat) (cI cJ cZ cM : ClassId) (h : Nat) (r : Nat → Nat) (i : Nat → Int32) (j : Nat → Int64) (x1 : Int32) (x2 : Int32) (f14 : Nat → Int32) (f15 : Nat → Int32) (f16 : Nat → Int32) (f17 : Nat → Int32) (f18 : Nat → Int32) (f20 : Nat → Int32) (f23 : Nat → Int32) (f49 : Nat → Int32) (hI : mR i) (hf14 : aR f14 0 10) (hf15 : aR f15 0 9999) (hf17 : aR f17 0 1) (hf18 : aR f18 0 12) (hf20 : aR f20 0 9) (hf23 : aR f23 0 1023) (hf49 : aR f49 0 1023) : k_Mi l yX7_thing wsX7_thing ({ frames := 2, cells := 0, slots := 0, locals := 61 }) (dC, dI) vwCl (tyy cI cJ cZ cM) [(h, .inr (7, oM r i j)), ((r 14), .inl (cI, 2, .inl f14)), ((r 15), .inl (cI, 20, .inl f15)), ((r 16), .inl (cI, 20, .inl f16)), ((r 17), .inl (cI, 20, .inl f17)), ((r 18), .inl (cI, 2, .inl f18)), ((r 20), .inl (cI, 24, .inl f20)), ((r 23), .inl (cI, 2, .inl f23)), ((r 49), .inl (cI, 22, .inl f49))] [.ref h, .int x1, .int x2] 0 0 (fun (u9 : Unit) => [(h, .inr (7, oM r i j)), ((r 14), .inl (cI, 2, .inl f14)), ((r 15), .inl (cI, 20, .inl f15)), ((r 16), .inl (cI, 20, .inl f16)), ((r 17), .inl (cI, 20, .inl f17)), ((r 18), .inl (cI, 2, .inl f18)), ((r 20), .inl (cI, 24, .inl f20)), ((r 23), .inl (cI, 2, .inl f23)), ((r 49), .inl (cI, 22, .inl f49))]) (fun (r9 : Int32) (u9 : Unit) => True) := by
  refine fun sz => k_enter (cc := cX7_thing) (maxL := 5) (ret := some (.int)) (Qc := fun A => va_Qi (fun (r9 : Int32) (u9 : Unit) => True) (fun u => k_B (dC, dI) vwCl (tyy cI cJ cZ cM) A ((fun (u9 : Unit) => [(h, .inr (7, oM r i j)), ((r 14), .inl (cI, 2, .inl f14)), ((r 15), .inl (cI, 20, .inl f15)), ((r 16), .inl (cI, 20, .inl f16)), ((r 17), .inl (cI, 20, .inl f17)), ((r 18), .inl (cI, 2, .inl f18)), ((r 20), .inl (cI, 24, .inl f20)), ((r 23), .inl (cI, 2, .inl f23)), ((r 49), .inl (cI, 22, .inl f49))]) u)) A) sz (by decide +kernel) rfl (Nat.le_of_ble_eq_true rfl) (fun p e s m args below meth c A ls H locs B hP hD hS hl => ?_)
  obtain ⟨hx, hb, hml, hown, hts, hr, hlk, hnm, hK, hA, hN, hC⟩ := id B
  have hown : s.vm.findClass RX7 = some m.cls := hown
  have hl : lv_has ls 5 [(0, .ref h), (1, .int x1), (2, .int x2)] := hl
  have w_0 : (Cond.fieldLink RX7 57 "WishSeaModel" "thingWorth" "[I").before args s = true := hts _ (List.mem_of_getElem? (i := 1) rfl)
  have w_1 : (Cond.fieldLink RX7 51 "WishSeaModel" "bank" "I").before args s = true := hts _ (List.mem_of_getElem? (i := 2) rfl)
  have w_2 : (Cond.fieldLink RX7 60 "WishSeaModel" "thingRhyme" "[I").before args s = true := hts _ (List.mem_of_getElem? (i := 3) rfl)
  have w_3 : (Cond.fieldLink RX7 63 "WishSeaModel" "thingBrief" "[I").before args s = true := hts _ (List.mem_of_getElem? (i := 4) rfl)
  have w_4 : (Cond.fieldLink RX7 162 "WishSeaModel" "hadOf" "[I").before args s = true := hts _ (List.mem_of_getElem? (i := 5) rfl)
  have w_5 : (Cond.fieldLink RX7 81 "WishSeaModel" "firstOnes" "[I").before args s = true := hts _ (List.mem_of_getElem? (i := 6) rfl)
  have w_6 : (Cond.fieldLink RX7 66 "WishSeaModel" "wishes" "[I").before args s = true := hts _ (List.mem_of_getElem? (i := 7) rfl)
  have hinX7 : ∀ w ∈ u_ws RX7 TX7 92, w ∈ wsX7_thing := fun _ h => List.mem_cons_of_mem _ (List.mem_append_right _ h)
  refine lv_aload_n hx hb dX7_thing_0 rfl (lv_at hl 0 rfl) ?_
  refine lv_iload_n hx hb dX7_thing_1 rfl (lv_at hl 1 rfl) ?_
  refine k_ci (wc := [(h, .inr (7, oM r i j)), ((r 14), .inl (cI, 2, .inl f14))]) (wr := [((r 15), .inl (cI, 20, .inl f15)), ((r 16), .inl (cI, 20, .inl f16)), ((r 17), .inl (cI, 20, .inl f17)), ((r 18), .inl (cI, 2, .inl f18)), ((r 20), .inl (cI, 24, .inl f20)), ((r 23), .inl (cI, 2, .inl f23)), ((r 49), .inl (cI, 22, .inl f49))]) (fun hPc hDc hFc => va_runV (As := [.int x1]) (rest := []) ⟨hx, hb, hml, hown, hts⟩ (s_X7_isThing_v0 l dC dI cI cJ cZ cM h r i j x1 f14 hI hf14 H.size) (cwV 1 hts gX7_thing_X7_isThing rfl rfl rfl (by decide +kernel) ⟨(Nat.le_of_ble_eq_true rfl), (Nat.le_of_ble_eq_true rfl)⟩) (k_pV hPc hDc hK hN hC hS hFc hP (q0 := 0) (ci := 7) rfl rfl) rfl rfl hl.1 rfl (lv_room (Nat.le_of_ble_eq_true rfl)) dX7_thing_2 ⟨(Nat.le_of_ble_eq_true rfl), (Nat.le_of_ble_eq_true rfl)⟩) hP hD hS hA [0, 1] [2, 3, 4, 5, 6, 7, 8] rfl rfl rfl rfl (by decide) (fun _ => rfl) 0 0 rfl rfl (fun r_2 u_2 H locs hw hP hD hS => ?_)
  obtain ⟨g_2_0, g_2_1⟩ := hw
  have hP : va_P (dC, dI) vwCl [((r 15), .inl (cI, 20, .inl f15)), ((r 16), .inl (cI, 20, .inl f16)), ((r 17), .inl (cI, 20, .inl f17)), ((r 18), .inl (cI, 2, .inl f18)), ((r 20), .inl (cI, 24, .inl f20)), ((r 23), .inl (cI, 2, .inl f23)), ((r 49), .inl (cI, 22, .inl f49)), (h, .inr (7, oM r i j)), ((r 14), .inl (cI, 2, .inl f14))] H := hP
  have hD : va_D A [((r 15), .inl (cI, 20, .inl f15)), ((r 16), .inl (cI, 20, .inl f16)), ((r 17), .inl (cI, 20, .inl f17)), ((r 18), .inl (cI, 2, .inl f18)), ((r 20), .inl (cI, 24, .inl f20)), ((r 23), .inl (cI, 2, .inl f23)), ((r 49), .inl (cI, 22, .inl f49)), (h, .inr (7, oM r i j)), ((r 14), .inl (cI, 2, .inl f14))] := hD
  have g_2_1 : (r_2 = 0) ∨ ((0 ≤ x1) ∧ (x1 < (f14 (i 13).toNatClampNeg))) := g_2_1
  refine lv_if_ne (tgt := 10) hx hb dX7_thing_5 (by decide) (fun c_5 => ?_) (fun c_5 => ?_)
  · have c_5 : ¬ r_2 = 0 := c_5
    have f_10_1 : iR r_2 1 1 := iR_neL c_5 g_2_0 (iR_c (n := 0) (a := 0) (b := 0) (by decide +kernel) (by decide +kernel)) (by decide +kernel)
    obtain ⟨d_5_1_0, d_5_1_1⟩ := g_2_1.resolve_left c_5
    have f_10_2 : iR x1 0 2147483647 := iR_leR d_5_1_0 (iR_c (n := 0) (a := 0) (b := 0) (by decide +kernel) (by decide +kernel)) (iR_top _) (by decide +kernel)
    have f_10_3 : iR x1 0 9 := iR_ltL d_5_1_1 f_10_2 (show iR (f14 (i 13).toNatClampNeg) 0 10 from hf14 _) (by decide +kernel)
    have f_10_4 : iR (f14 (i 13).toNatClampNeg) 1 10 := iR_ltR d_5_1_1 f_10_2 (show iR (f14 (i 13).toNatClampNeg) 0 10 from hf14 _) (by decide +kernel)
    refine lv_iconst (v := 0) hx hb dX7_thing_10 (by decide +kernel) ?_
    refine lv_istore_n (lv' := [(3, .int 0), (0, .ref h), (1, .int x1), (2, .int x2)]) hx hb dX7_thing_11 rfl hl (by decide) rfl (fun ls hl => ?_)
    refine lv_iload_n hx hb dX7_thing_12 rfl (lv_at hl 3 rfl) ?_
    rcases (show x2.toInt = 0 ∨ x2.toInt = 1 ∨ x2.toInt = 2 ∨ x2.toInt = 3 ∨ x2.toInt = 4 ∨ x2.toInt = 5 ∨ (¬ x2.toInt = 0 ∧ ¬ x2.toInt = 1 ∧ ¬ x2.toInt = 2 ∧ ¬ x2.toInt = 3 ∧ ¬ x2.toInt = 4 ∧ ¬ x2.toInt = 5) by omega) with c_13 | c_13 | c_13 | c_13 | c_13 | c_13 | c_13
    · have f_52_5 : iR x2 0 0 := iR_c c_13 (by decide +kernel)
      refine lv_tableIn (off := 39) (tgt := 52) hx hb dX7_thing_13 (by rw [c_13]; decide) (by rw [c_13]; decide) (by rw [c_13]; decide +kernel) (by decide +kernel) ?_
      refine lv_aload_n hx hb dX7_thing_52 rfl (lv_at hl 1 rfl) ?_
      refine k_get (D := (dC, dI)) (ci := 7) (v := .ref (r 15)) (C := RX7) (T := TX7) (N := 92) hx hb hts hinX7 hown hK hP 7 rfl rfl 15 (by decide) w_0 rfl rfl dX7_thing_53 ?_
      refine lv_bipush (v := 10) hx hb dX7_thing_56 (by decide +kernel) ?_
      refine lv_aload_n hx hb dX7_thing_58 rfl (lv_at hl 1 rfl) ?_
      have f_59_6 : iR (i 13) 0 1 := hI 13
      refine k_get (D := (dC, dI)) (ci := 7) (v := .int (i 13)) (C := RX7) (T := TX7) (N := 92) hx hb hts hinX7 hown hK hP 7 rfl rfl 13 (by decide) w_1 rfl rfl dX7_thing_59 ?_
      refine lv_imul hx hb dX7_thing_62 ?_
      refine lv_topi (fun y_62 ey_62 => ?_)
      have f_62_7 : iR y_62 0 10 := iR_mul ey_62 (iR_c (n := 10) (a := 10) (b := 10) (by decide +kernel) (by decide +kernel)) f_59_6 (by decide +kernel)
      refine lv_iload_n hx hb dX7_thing_63 rfl (lv_at hl 2 rfl) ?_
      refine lv_iadd hx hb dX7_thing_64 ?_
      refine lv_topi (fun y_64 ey_64 => ?_)
      have f_64_8 : iR y_64 0 19 := iR_add ey_64 f_62_7 f_10_3 (by decide +kernel)
      refine va_iald hx hb hK hP 0 0 rfl rfl (iR_vp f_64_8 (by decide +kernel)) dX7_thing_65 ?_
      have f_65_9 : iR (f15 y_64.toNatClampNeg) 0 9999 := hf15 _
      exact k_ri B hP hD hS dX7_thing_66 () [7, 8, 0, 1, 2, 3, 4, 5, 6] rfl rfl rfl (Nat.le_of_ble_eq_true rfl) (Nat.le_of_ble_eq_true rfl) trivial
    · have f_67_5 : iR x2 1 1 := iR_c c_13 (by decide +kernel)
      refine lv_tableIn (off := 54) (tgt := 67) hx hb dX7_thing_13 (by rw [c_13]; decide) (by rw [c_13]; decide) (by rw [c_13]; decide +kernel) (by decide +kernel) ?_
      refine lv_aload_n hx hb dX7_thing_67 rfl (lv_at hl 1 rfl) ?_
      refine k_get (D := (dC, dI)) (ci := 7) (v := .ref (r 16)) (C := RX7) (T := TX7) (N := 92) hx hb hts hinX7 hown hK hP 7 rfl rfl 16 (by decide) w_2 rfl rfl dX7_thing_68 ?_
      refine lv_bipush (v := 10) hx hb dX7_thing_71 (by decide +kernel) ?_
      refine lv_aload_n hx hb dX7_thing_73 rfl (lv_at hl 1 rfl) ?_
      have f_74_6 : iR (i 13) 0 1 := hI 13
      refine k_get (D := (dC, dI)) (ci := 7) (v := .int (i 13)) (C := RX7) (T := TX7) (N := 92) hx hb hts hinX7 hown hK hP 7 rfl rfl 13 (by decide) w_1 rfl rfl dX7_thing_74 ?_
      refine lv_imul hx hb dX7_thing_77 ?_
      refine lv_topi (fun y_77 ey_77 => ?_)
      have f_77_7 : iR y_77 0 10 := iR_mul ey_77 (iR_c (n := 10) (a := 10) (b := 10) (by decide +kernel) (by decide +kernel)) f_74_6 (by decide +kernel)
      refine lv_iload_n hx hb dX7_thing_78 rfl (lv_at hl 2 rfl) ?_
      refine lv_iadd hx hb dX7_thing_79 ?_
      refine lv_topi (fun y_79 ey_79 => ?_)
      have f_79_8 : iR y_79 0 19 := iR_add ey_79 f_77_7 f_10_3 (by decide +kernel)
      refine va_iald hx hb hK hP 1 0 rfl rfl (iR_vp f_79_8 (by decide +kernel)) dX7_thing_80 ?_
      exact k_ri B hP hD hS dX7_thing_81 () [7, 8, 0, 1, 2, 3, 4, 5, 6] rfl rfl rfl (Nat.le_of_ble_eq_true rfl) (Nat.le_of_ble_eq_true rfl) trivial
    · have f_82_5 : iR x2 2 2 := iR_c c_13 (by decide +kernel)
      refine lv_tableIn (off := 69) (tgt := 82) hx hb dX7_thing_13 (by rw [c_13]; decide) (by rw [c_13]; decide) (by rw [c_13]; decide +kernel) (by decide +kernel) ?_
      refine lv_aload_n hx hb dX7_thing_82 rfl (lv_at hl 1 rfl) ?_
      refine k_get (D := (dC, dI)) (ci := 7) (v := .ref (r 17)) (C := RX7) (T := TX7) (N := 92) hx hb hts hinX7 hown hK hP 7 rfl rfl 17 (by decide) w_3 rfl rfl dX7_thing_83 ?_
      refine lv_bipush (v := 10) hx hb dX7_thing_86 (by decide +kernel) ?_
      refine lv_aload_n hx hb dX7_thing_88 rfl (lv_at hl 1 rfl) ?_
      have f_89_6 : iR (i 13) 0 1 := hI 13
      refine k_get (D := (dC, dI)) (ci := 7) (v := .int (i 13)) (C := RX7) (T := TX7) (N := 92) hx hb hts hinX7 hown hK hP 7 rfl rfl 13 (by decide) w_1 rfl rfl dX7_thing_89 ?_
      refine lv_imul hx hb dX7_thing_92 ?_
      refine lv_topi (fun y_92 ey_92 => ?_)
      have f_92_7 : iR y_92 0 10 := iR_mul ey_92 (iR_c (n := 10) (a := 10) (b := 10) (by decide +kernel) (by decide +kernel)) f_89_6 (by decide +kernel)
      refine lv_iload_n hx hb dX7_thing_93 rfl (lv_at hl 2 rfl) ?_
      refine lv_iadd hx hb dX7_thing_94 ?_
      refine lv_topi (fun y_94 ey_94 => ?_)
      have f_94_8 : iR y_94 0 19 := iR_add ey_94 f_92_7 f_10_3 (by decide +kernel)
      refine va_iald hx hb hK hP 2 0 rfl rfl (iR_vp f_94_8 (by decide +kernel)) dX7_thing_95 ?_
      have f_95_9 : iR (f17 y_94.toNatClampNeg) 0 1 := hf17 _
      exact k_ri B hP hD hS dX7_thing_96 () [7, 8, 0, 1, 2, 3, 4, 5, 6] rfl rfl rfl (Nat.le_of_ble_eq_true rfl) (Nat.le_of_ble_eq_true rfl) trivial
    · have f_97_5 : iR x2 3 3 := iR_c c_13 (by decide +kernel)
      refine lv_tableIn (off := 84) (tgt := 97) hx hb dX7_thing_13 (by rw [c_13]; decide) (by rw [c_13]; decide) (by rw [c_13]; decide +kernel) (by decide +kernel) ?_
      refine lv_aload_n hx hb dX7_thing_97 rfl (lv_at hl 1 rfl) ?_
      refine k_get (D := (dC, dI)) (ci := 7) (v := .ref (r 49)) (C := RX7) (T := TX7) (N := 92) hx hb hts hinX7 hown hK hP 7 rfl rfl 49 (by decide) w_4 rfl rfl dX7_thing_98 ?_
      refine lv_iconst (v := 0) hx hb dX7_thing_101 (by decide +kernel) ?_
      refine k_iald (v := (f49 0)) hx hb hK hP 6 0 0 rfl rfl rfl (Nat.le_of_ble_eq_true rfl) (Nat.le_of_ble_eq_true rfl) rfl dX7_thing_102 ?_
      have f_102_6 : iR (f49 0) 0 1023 := hf49 _
      refine lv_iload_n hx hb dX7_thing_103 rfl (lv_at hl 2 rfl) ?_
      refine k_ci (wc := []) (wr := [((r 15), .inl (cI, 20, .inl f15)), ((r 16), .inl (cI, 20, .inl f16)), ((r 17), .inl (cI, 20, .inl f17)), ((r 18), .inl (cI, 2, .inl f18)), ((r 20), .inl (cI, 24, .inl f20)), ((r 23), .inl (cI, 2, .inl f23)), ((r 49), .inl (cI, 22, .inl f49)), (h, .inr (7, oM r i j)), ((r 14), .inl (cI, 2, .inl f14))]) (fun hPc hDc hFc => va_runS (As := [.int (f49 0), .int x1]) (rest := []) ⟨hx, hb, hml, hown, hts⟩ (s_X7_holds_v0 l dC dI cI cJ cZ cM (f49 0) x1 H.size) (va_cwS 2 hts gX7_thing_X7_holds rfl rfl rfl (by decide +kernel) ⟨(Nat.le_of_ble_eq_true rfl), (Nat.le_of_ble_eq_true rfl)⟩) (k_pS hPc hDc hK hN hC hS hFc) rfl rfl hl.1 rfl (lv_room (Nat.le_of_ble_eq_true rfl)) dX7_thing_104 ⟨(Nat.le_of_ble_eq_true rfl), (Nat.le_of_ble_eq_true rfl)⟩) hP hD hS hA [] [0, 1, 2, 3, 4, 5, 6, 7, 8] rfl rfl rfl rfl (by decide) (fun _ => rfl) 0 0 rfl rfl (fun r_104 u_104 H locs hw hP hD hS => ?_)
      obtain ⟨g_104_0, g_104_1⟩ := hw
      have hP : va_P (dC, dI) vwCl [((r 15), .inl (cI, 20, .inl f15)), ((r 16), .inl (cI, 20, .inl f16)), ((r 17), .inl (cI, 20, .inl f17)), ((r 18), .inl (cI, 2, .inl f18)), ((r 20), .inl (cI, 24, .inl f20)), ((r 23), .inl (cI, 2, .inl f23)), ((r 49), .inl (cI, 22, .inl f49)), (h, .inr (7, oM r i j)), ((r 14), .inl (cI, 2, .inl f14))] H := hP
      have hD : va_D A [((r 15), .inl (cI, 20, .inl f15)), ((r 16), .inl (cI, 20, .inl f16)), ((r 17), .inl (cI, 20, .inl f17)), ((r 18), .inl (cI, 2, .inl f18)), ((r 20), .inl (cI, 24, .inl f20)), ((r 23), .inl (cI, 2, .inl f23)), ((r 49), .inl (cI, 22, .inl f49)), (h, .inr (7, oM r i j)), ((r 14), .inl (cI, 2, .inl f14))] := hD
      have g_104_1 : r_104 = hof (f49 0) x1 := g_104_1
      refine lv_if_eq (tgt := 114) hx hb dX7_thing_107 (by decide) (fun c_107 => ?_) (fun c_107 => ?_)
      · have c_107 : r_104 = 0 := c_107
        have f_114_7 : iR r_104 0 0 := iR_eqL c_107 g_104_0 (iR_c (n := 0) (a := 0) (b := 0) (by decide +kernel) (by decide +kernel)) (by decide +kernel)
        refine lv_iconst (v := 0) hx hb dX7_thing_114 (by decide +kernel) ?_
        exact k_ri B hP hD hS dX7_thing_115 () [7, 8, 0, 1, 2, 3, 4, 5, 6] rfl rfl rfl (Nat.le_of_ble_eq_true rfl) (Nat.le_of_ble_eq_true rfl) trivial
      · have c_107 : ¬ r_104 = 0 := c_107
        have f_110_7 : iR r_104 1 1 := iR_neL c_107 g_104_0 (iR_c (n := 0) (a := 0) (b := 0) (by decide +kernel) (by decide +kernel)) (by decide +kernel)
        refine lv_iconst (v := 1) hx hb dX7_thing_110 (by decide +kernel) ?_
        refine lv_goto (tgt := 115) hx hb dX7_thing_111 (by decide) ?_
        exact k_ri B hP hD hS dX7_thing_115 () [7, 8, 0, 1, 2, 3, 4, 5, 6] rfl rfl rfl (Nat.le_of_ble_eq_true rfl) (Nat.le_of_ble_eq_true rfl) trivial
    · have f_116_5 : iR x2 4 4 := iR_c c_13 (by decide +kernel)
      refine lv_tableIn (off := 103) (tgt := 116) hx hb dX7_thing_13 (by rw [c_13]; decide) (by rw [c_13]; decide) (by rw [c_13]; decide +kernel) (by decide +kernel) ?_
      refine lv_aload_n hx hb dX7_thing_116 rfl (lv_at hl 1 rfl) ?_
      refine k_get (D := (dC, dI)) (ci := 7) (v := .ref (r 23)) (C := RX7) (T := TX7) (N := 92) hx hb hts hinX7 hown hK hP 7 rfl rfl 23 (by decide) w_5 rfl rfl dX7_thing_117 ?_
      refine lv_aload_n hx hb dX7_thing_120 rfl (lv_at hl 1 rfl) ?_
      have f_121_6 : iR (i 13) 0 1 := hI 13
      refine k_get (D := (dC, dI)) (ci := 7) (v := .int (i 13)) (C := RX7) (T := TX7) (N := 92) hx hb hts hinX7 hown hK hP 7 rfl rfl 13 (by decide) w_1 rfl rfl dX7_thing_121 ?_
      refine va_iald hx hb hK hP 5 0 rfl rfl (iR_vp f_121_6 (by decide +kernel)) dX7_thing_124 ?_
      have f_124_7 : iR (f23 (i 13).toNatClampNeg) 0 1023 := hf23 _
      refine lv_iload_n hx hb dX7_thing_125 rfl (lv_at hl 2 rfl) ?_
      refine k_ci (wc := []) (wr := [((r 15), .inl (cI, 20, .inl f15)), ((r 16), .inl (cI, 20, .inl f16)), ((r 17), .inl (cI, 20, .inl f17)), ((r 18), .inl (cI, 2, .inl f18)), ((r 20), .inl (cI, 24, .inl f20)), ((r 23), .inl (cI, 2, .inl f23)), ((r 49), .inl (cI, 22, .inl f49)), (h, .inr (7, oM r i j)), ((r 14), .inl (cI, 2, .inl f14))]) (fun hPc hDc hFc => va_runS (As := [.int (f23 (i 13).toNatClampNeg), .int x1]) (rest := []) ⟨hx, hb, hml, hown, hts⟩ (s_X7_holds_v0 l dC dI cI cJ cZ cM (f23 (i 13).toNatClampNeg) x1 H.size) (va_cwS 2 hts gX7_thing_X7_holds rfl rfl rfl (by decide +kernel) ⟨(Nat.le_of_ble_eq_true rfl), (Nat.le_of_ble_eq_true rfl)⟩) (k_pS hPc hDc hK hN hC hS hFc) rfl rfl hl.1 rfl (lv_room (Nat.le_of_ble_eq_true rfl)) dX7_thing_126 ⟨(Nat.le_of_ble_eq_true rfl), (Nat.le_of_ble_eq_true rfl)⟩) hP hD hS hA [] [0, 1, 2, 3, 4, 5, 6, 7, 8] rfl rfl rfl rfl (by decide) (fun _ => rfl) 0 0 rfl rfl (fun r_126 u_126 H locs hw hP hD hS => ?_)
      obtain ⟨g_126_0, g_126_1⟩ := hw
      have hP : va_P (dC, dI) vwCl [((r 15), .inl (cI, 20, .inl f15)), ((r 16), .inl (cI, 20, .inl f16)), ((r 17), .inl (cI, 20, .inl f17)), ((r 18), .inl (cI, 2, .inl f18)), ((r 20), .inl (cI, 24, .inl f20)), ((r 23), .inl (cI, 2, .inl f23)), ((r 49), .inl (cI, 22, .inl f49)), (h, .inr (7, oM r i j)), ((r 14), .inl (cI, 2, .inl f14))] H := hP
      have hD : va_D A [((r 15), .inl (cI, 20, .inl f15)), ((r 16), .inl (cI, 20, .inl f16)), ((r 17), .inl (cI, 20, .inl f17)), ((r 18), .inl (cI, 2, .inl f18)), ((r 20), .inl (cI, 24, .inl f20)), ((r 23), .inl (cI, 2, .inl f23)), ((r 49), .inl (cI, 22, .inl f49)), (h, .inr (7, oM r i j)), ((r 14), .inl (cI, 2, .inl f14))] := hD
      have g_126_1 : r_126 = hof (f23 (i 13).toNatClampNeg) x1 := g_126_1
      refine lv_if_eq (tgt := 136) hx hb dX7_thing_129 (by decide) (fun c_129 => ?_) (fun c_129 => ?_)
      · have c_129 : r_126 = 0 := c_129
        have f_136_8 : iR r_126 0 0 := iR_eqL c_129 g_126_0 (iR_c (n := 0) (a := 0) (b := 0) (by decide +kernel) (by decide +kernel)) (by decide +kernel)
        refine lv_iconst (v := 0) hx hb dX7_thing_136 (by decide +kernel) ?_
        exact k_ri B hP hD hS dX7_thing_137 () [7, 8, 0, 1, 2, 3, 4, 5, 6] rfl rfl rfl (Nat.le_of_ble_eq_true rfl) (Nat.le_of_ble_eq_true rfl) trivial
      · have c_129 : ¬ r_126 = 0 := c_129
        have f_132_8 : iR r_126 1 1 := iR_neL c_129 g_126_0 (iR_c (n := 0) (a := 0) (b := 0) (by decide +kernel) (by decide +kernel)) (by decide +kernel)
        refine lv_iconst (v := 1) hx hb dX7_thing_132 (by decide +kernel) ?_
        refine lv_goto (tgt := 137) hx hb dX7_thing_133 (by decide) ?_
        exact k_ri B hP hD hS dX7_thing_137 () [7, 8, 0, 1, 2, 3, 4, 5, 6] rfl rfl rfl (Nat.le_of_ble_eq_true rfl) (Nat.le_of_ble_eq_true rfl) trivial
    · have f_138_5 : iR x2 5 5 := iR_c c_13 (by decide +kernel)
      refine lv_tableIn (off := 125) (tgt := 138) hx hb dX7_thing_13 (by rw [c_13]; decide) (by rw [c_13]; decide) (by rw [c_13]; decide +kernel) (by decide +kernel) ?_
      refine lv_iconst (v := 0) hx hb dX7_thing_138 (by decide +kernel) ?_
      have J_141 : ∀ (n_141 : Nat) (j141_L3 : Int32) (j141_L4 : Int32) (hj141_L4 : iR j141_L4 0 12) (hm_141 : (12 - j141_L4.toInt).toNat < n_141) (H : Heap) (locs : List Loc) (ls : Array Slot), va_P (dC, dI) vwCl [(h, .inr (7, oM r i j)), ((r 14), .inl (cI, 2, .inl f14)), ((r 15), .inl (cI, 20, .inl f15)), ((r 16), .inl (cI, 20, .inl f16)), ((r 17), .inl (cI, 20, .inl f17)), ((r 18), .inl (cI, 2, .inl f18)), ((r 20), .inl (cI, 24, .inl f20)), ((r 23), .inl (cI, 2, .inl f23)), ((r 49), .inl (cI, 22, .inl f49))] H → va_D A [(h, .inr (7, oM r i j)), ((r 14), .inl (cI, 2, .inl f14)), ((r 15), .inl (cI, 20, .inl f15)), ((r 16), .inl (cI, 20, .inl f16)), ((r 17), .inl (cI, 20, .inl f17)), ((r 18), .inl (cI, 2, .inl f18)), ((r 20), .inl (cI, 24, .inl f20)), ((r 23), .inl (cI, 2, .inl f23)), ((r 49), .inl (cI, 22, .inl f49))] → va_S A s.heap H locs → lv_has ls 5 [(0, .ref h), (1, .int x1), (3, .int j141_L3), (4, .int j141_L4)] → W p l e ({ frames := 2, cells := 0, slots := 0, locals := 61 }) s m args below meth c H locs 0 0 (MQ below (va_Qi (fun (r9 : Int32) (u9 : Unit) => True) (fun u => k_B (dC, dI) vwCl (tyy cI cJ cZ cM) A ((fun (u9 : Unit) => [(h, .inr (7, oM r i j)), ((r 14), .inl (cI, 2, .inl f14)), ((r 15), .inl (cI, 20, .inl f15)), ((r 16), .inl (cI, 20, .inl f16)), ((r 17), .inl (cI, 20, .inl f17)), ((r 18), .inl (cI, 2, .inl f18)), ((r 20), .inl (cI, 24, .inl f20)), ((r 23), .inl (cI, 2, .inl f23)), ((r 49), .inl (cI, 22, .inl f49))]) u)) A) args s 0 0 A) (F0 m 141 ls []) := by
        intro n_141
        induction n_141 with
        | zero => intro j141_L3 j141_L4 hj141_L4 hm_141; exact absurd hm_141 (Nat.not_lt_zero _)
        | succ n_141 ih_141 =>
          intro j141_L3 j141_L4 hj141_L4 hm_141 H locs ls hP hD hS hl
          refine lv_iload hx hb dX7_thing_141 (lv_at hl 3 rfl) ?_
          refine lv_aload_n hx hb dX7_thing_143 rfl (lv_at hl 0 rfl) ?_
          refine k_get (D := (dC, dI)) (ci := 7) (v := .ref (r 18)) (C := RX7) (T := TX7) (N := 92) hx hb hts hinX7 hown hK hP 0 rfl rfl 18 (by decide) w_6 rfl rfl dX7_thing_144 ?_
          refine lv_aload_n hx hb dX7_thing_147 rfl (lv_at hl 0 rfl) ?_
          have f_148_1 : iR (i 13) 0 1 := hI 13
          refine k_get (D := (dC, dI)) (ci := 7) (v := .int (i 13)) (C := RX7) (T := TX7) (N := 92) hx hb hts hinX7 hown hK hP 0 rfl rfl 13 (by decide) w_1 rfl rfl dX7_thing_148 ?_
          refine va_iald hx hb hK hP 5 0 rfl rfl (iR_vp f_148_1 (by decide +kernel)) dX7_thing_151 ?_
          have f_151_2 : iR (f18 (i 13).toNatClampNeg) 0 12 := hf18 _
          refine lv_icmp_ge (tgt := 179) hx hb dX7_thing_152 (by decide) (fun c_152 => ?_) (fun c_152 => ?_)
          · have c_152 : (f18 (i 13).toNatClampNeg) ≤ j141_L4 := c_152
            refine lv_iload_n hx hb dX7_thing_179 rfl (lv_at hl 2 rfl) ?_
            exact k_ri B hP hD hS dX7_thing_180 () [0, 1, 2, 3, 4, 5, 6, 7, 8] rfl rfl rfl (Nat.le_of_ble_eq_true rfl) (Nat.le_of_ble_eq_true rfl) trivial
          · have c_152 : j141_L4 < (f18 (i 13).toNatClampNeg) := i_nle c_152
            have f_155_3 : iR j141_L4 0 11 := iR_ltL c_152 hj141_L4 f_151_2 (by decide +kernel)
            have f_155_4 : iR (f18 (i 13).toNatClampNeg) 1 12 := iR_ltR c_152 hj141_L4 f_151_2 (by decide +kernel)
            refine lv_iload_n hx hb dX7_thing_155 rfl (lv_at hl 2 rfl) ?_
            refine lv_aload_n hx hb dX7_thing_156 rfl (lv_at hl 0 rfl) ?_
            refine lv_iload hx hb dX7_thing_157 (lv_at hl 3 rfl) ?_
            refine k_ci (wc := [(h, .inr (7, oM r i j)), ((r 20), .inl (cI, 24, .inl f20))]) (wr := [((r 14), .inl (cI, 2, .inl f14)), ((r 15), .inl (cI, 20, .inl f15)), ((r 16), .inl (cI, 20, .inl f16)), ((r 17), .inl (cI, 20, .inl f17)), ((r 18), .inl (cI, 2, .inl f18)), ((r 23), .inl (cI, 2, .inl f23)), ((r 49), .inl (cI, 22, .inl f49))]) (fun hPc hDc hFc => va_runV (As := [.int j141_L4]) (rest := [.int j141_L3]) ⟨hx, hb, hml, hown, hts⟩ (s_X7_givesOf_v0 l dC dI cI cJ cZ cM h r i j j141_L4 f20 f_155_3 hI hf20 H.size) (cwV 1 hts gX7_thing_X7_givesOf rfl rfl rfl (by decide +kernel) ⟨(Nat.le_of_ble_eq_true rfl), (Nat.le_of_ble_eq_true rfl)⟩) (k_pV hPc hDc hK hN hC hS hFc hP (q0 := 0) (ci := 7) rfl rfl) rfl rfl hl.1 rfl (lv_room (Nat.le_of_ble_eq_true rfl)) dX7_thing_159 ⟨(Nat.le_of_ble_eq_true rfl), (Nat.le_of_ble_eq_true rfl)⟩) hP hD hS hA [0, 6] [1, 2, 3, 4, 5, 7, 8] rfl rfl rfl rfl (by decide) (fun _ => rfl) 0 0 rfl rfl (fun r_159 u_159 H locs hw hP hD hS => ?_)
            obtain ⟨g_159_0, g_159_1⟩ := hw
            have hP : va_P (dC, dI) vwCl [((r 14), .inl (cI, 2, .inl f14)), ((r 15), .inl (cI, 20, .inl f15)), ((r 16), .inl (cI, 20, .inl f16)), ((r 17), .inl (cI, 20, .inl f17)), ((r 18), .inl (cI, 2, .inl f18)), ((r 23), .inl (cI, 2, .inl f23)), ((r 49), .inl (cI, 22, .inl f49)), (h, .inr (7, oM r i j)), ((r 20), .inl (cI, 24, .inl f20))] H := hP
            have hD : va_D A [((r 14), .inl (cI, 2, .inl f14)), ((r 15), .inl (cI, 20, .inl f15)), ((r 16), .inl (cI, 20, .inl f16)), ((r 17), .inl (cI, 20, .inl f17)), ((r 18), .inl (cI, 2, .inl f18)), ((r 23), .inl (cI, 2, .inl f23)), ((r 49), .inl (cI, 22, .inl f49)), (h, .inr (7, oM r i j)), ((r 20), .inl (cI, 24, .inl f20))] := hD
            have g_159_1 : r_159 = f20 (12 * (i 13).toNatClampNeg + j141_L4.toNatClampNeg) := g_159_1
            refine lv_iload_n hx hb dX7_thing_162 rfl (lv_at hl 1 rfl) ?_
            have J_171 : ∀ (j171_S0 : Int32) (hj171_S0 : iR j171_S0 0 1) (H : Heap) (locs : List Loc) (ls : Array Slot), va_P (dC, dI) vwCl [(h, .inr (7, oM r i j)), ((r 14), .inl (cI, 2, .inl f14)), ((r 15), .inl (cI, 20, .inl f15)), ((r 16), .inl (cI, 20, .inl f16)), ((r 17), .inl (cI, 20, .inl f17)), ((r 18), .inl (cI, 2, .inl f18)), ((r 20), .inl (cI, 24, .inl f20)), ((r 23), .inl (cI, 2, .inl f23)), ((r 49), .inl (cI, 22, .inl f49))] H → va_D A [(h, .inr (7, oM r i j)), ((r 14), .inl (cI, 2, .inl f14)), ((r 15), .inl (cI, 20, .inl f15)), ((r 16), .inl (cI, 20, .inl f16)), ((r 17), .inl (cI, 20, .inl f17)), ((r 18), .inl (cI, 2, .inl f18)), ((r 20), .inl (cI, 24, .inl f20)), ((r 23), .inl (cI, 2, .inl f23)), ((r 49), .inl (cI, 22, .inl f49))] → va_S A s.heap H locs → lv_has ls 5 [(0, .ref h), (1, .int x1), (4, .int j141_L4)] → W p l e ({ frames := 2, cells := 0, slots := 0, locals := 61 }) s m args below meth c H locs 0 0 (MQ below (va_Qi (fun (r9 : Int32) (u9 : Unit) => True) (fun u => k_B (dC, dI) vwCl (tyy cI cJ cZ cM) A ((fun (u9 : Unit) => [(h, .inr (7, oM r i j)), ((r 14), .inl (cI, 2, .inl f14)), ((r 15), .inl (cI, 20, .inl f15)), ((r 16), .inl (cI, 20, .inl f16)), ((r 17), .inl (cI, 20, .inl f17)), ((r 18), .inl (cI, 2, .inl f18)), ((r 20), .inl (cI, 24, .inl f20)), ((r 23), .inl (cI, 2, .inl f23)), ((r 49), .inl (cI, 22, .inl f49))]) u)) A) args s 0 0 A) (F0 m 171 ls [.int j171_S0, .int j141_L3]) := by
              intro j171_S0 hj171_S0 H locs ls hP hD hS hl
              refine lv_iadd hx hb dX7_thing_171 ?_
              refine lv_topi (fun y_171 ey_171 => ?_)
              refine lv_istore_n (lv' := [(3, .int y_171), (0, .ref h), (1, .int x1), (4, .int j141_L4)]) hx hb dX7_thing_172 rfl hl (by decide) rfl (fun ls hl => ?_)
              obtain ⟨y_173, ey_173⟩ : ∃ y : Int32, y = j141_L4 + 1 := ⟨_, rfl⟩
              refine lv_iinc (v := y_173) (lv' := [(4, .int y_173), (3, .int y_171), (0, .ref h), (1, .int x1)]) hx hb dX7_thing_173 hl (k := 3) rfl ey_173.symm (by decide) rfl (fun ls hl => ?_)
              have f_173_1 : iR y_173 1 12 := iR_add ey_173 f_155_3 (iR_c (n := 1) (a := 1) (b := 1) (by decide +kernel) (by decide +kernel)) (by decide +kernel)
              refine lv_goto (tgt := 141) hx hb dX7_thing_176 (by decide) ?_
              exact ih_141 y_171 y_173 (iR_w f_173_1 (by decide +kernel)) (m_up (B := 12) hm_141 ey_173 f_155_3 (by decide +kernel)) H locs ls hP hD hS (lv_sub hl [2, 3, 1, 0] rfl)
            refine lv_icmp_ne (tgt := 170) hx hb dX7_thing_163 (by decide) (fun c_163 => ?_) (fun c_163 => ?_)
            · have c_163 : ¬ r_159 = x1 := c_163
              refine lv_iconst (v := 0) hx hb dX7_thing_170 (by decide +kernel) ?_
              exact J_171 0 (iR_c (n := 0) (a := 0) (b := 1) (by decide +kernel) (by decide +kernel)) H locs ls (hP.sub [7, 0, 1, 2, 3, 4, 8, 5, 6] rfl) (hD.sub [7, 0, 1, 2, 3, 4, 8, 5, 6] (by decide +kernel) rfl) hS (lv_sub hl [0, 1, 3] rfl)
            · have c_163 : r_159 = x1 := c_163
              refine lv_iconst (v := 1) hx hb dX7_thing_166 (by decide +kernel) ?_
              refine lv_goto (tgt := 171) hx hb dX7_thing_167 (by decide) ?_
              exact J_171 1 (iR_c (n := 1) (a := 0) (b := 1) (by decide +kernel) (by decide +kernel)) H locs ls (hP.sub [7, 0, 1, 2, 3, 4, 8, 5, 6] rfl) (hD.sub [7, 0, 1, 2, 3, 4, 8, 5, 6] (by decide +kernel) rfl) hS (lv_sub hl [0, 1, 3] rfl)
      refine lv_istore (lv' := [(4, .int 0), (3, .int 0), (0, .ref h), (1, .int x1), (2, .int x2)]) hx hb dX7_thing_139 hl (by decide) rfl (fun ls hl => ?_)
      exact J_141 _ 0 0 (iR_c (n := 0) (a := 0) (b := 12) (by decide +kernel) (by decide +kernel)) (Nat.lt_succ_self _) H locs ls (hP.sub [7, 8, 0, 1, 2, 3, 4, 5, 6] rfl) (hD.sub [7, 8, 0, 1, 2, 3, 4, 5, 6] (by decide +kernel) rfl) hS (lv_sub hl [2, 3, 1, 0] rfl)
    · refine lv_tableOut (tgt := 181) hx hb dX7_thing_13 (by omega) (by decide +kernel) ?_
      refine lv_iconst (v := (-1)) hx hb dX7_thing_181 (by decide +kernel) ?_
      exact k_ri B hP hD hS dX7_thing_182 () [7, 8, 0, 1, 2, 3, 4, 5, 6] rfl rfl rfl (Nat.le_of_ble_eq_true rfl) (Nat.le_of_ble_eq_true rfl) trivial
  · have c_5 : r_2 = 0 := c_5
    have f_8_1 : iR r_2 0 0 := iR_eqL c_5 g_2_0 (iR_c (n := 0) (a := 0) (b := 0) (by decide +kernel) (by decide +kernel)) (by decide +kernel)
    refine lv_iconst (v := (-1)) hx hb dX7_thing_8 (by decide +kernel) ?_
    exact k_ri B hP hD hS dX7_thing_9 () [7, 8, 0, 1, 2, 3, 4, 5, 6] rfl rfl rfl (Nat.le_of_ble_eq_true rfl) (Nat.le_of_ble_eq_true rfl) trivial
set_option maxHeartbeats 8000000 in
set_option maxRecDepth 100000 in
theorem s_X7_isWish_v0 (l : Launch) (dC : Nat → ClassId) (dI : Nat → Nat → Nat) (cI cJ cZ cM : ClassId) (h : Nat) (r : Nat → Nat) (i : Nat → Int32) (j : Nat → Int64) (x1 : Int32) (f18 : Nat → Int32) (hI : mR i) (hf18 : aR f18 0 12) : k_Mi l yX7_isWish wsX7_isWish ({ frames := 1, cells := 0, slots := 0, locals := 40 }) (dC, dI) vwCl (tyy cI cJ cZ cM) [(h, .inr (7, oM r i j)), ((r 18), .inl (cI, 2, .inl f18))] [.ref h, .int x1] 0 0 (fun (u9 : Unit) => [(h, .inr (7, oM r i j)), ((r 18), .inl (cI, 2, .inl f18))]) (fun (r9 : Int32) (u9 : Unit) => (iR r9 0 1) ∧ ((r9 = 0) ∨ ((0 ≤ x1) ∧ (x1 < (f18 (i 13).toNatClampNeg))))) := by
  refine fun sz => k_enter (cc := cX7_isWish) (maxL := 2) (ret := some (.boolean)) (Qc := fun A => va_Qi (fun (r9 : Int32) (u9 : Unit) => (iR r9 0 1) ∧ ((r9 = 0) ∨ ((0 ≤ x1) ∧ (x1 < (f18 (i 13).toNatClampNeg))))) (fun u => k_B (dC, dI) vwCl (tyy cI cJ cZ cM) A ((fun (u9 : Unit) => [(h, .inr (7, oM r i j)), ((r 18), .inl (cI, 2, .inl f18))]) u)) A) sz (by decide +kernel) rfl (Nat.le_of_ble_eq_true rfl) (fun p e s m args below meth c A ls H locs B hP hD hS hl => ?_)
  obtain ⟨hx, hb, hml, hown, hts, hr, hlk, hnm, hK, hA, hN, hC⟩ := id B
  have hown : s.vm.findClass RX7 = some m.cls := hown
  have hl : lv_has ls 2 [(0, .ref h), (1, .int x1)] := hl
  have w_0 : (Cond.fieldLink RX7 66 "WishSeaModel" "wishes" "[I").before args s = true := hts _ (List.mem_of_getElem? (i := 1) rfl)
  have w_1 : (Cond.fieldLink RX7 51 "WishSeaModel" "bank" "I").before args s = true := hts _ (List.mem_of_getElem? (i := 2) rfl)
  have hinX7 : ∀ w ∈ u_ws RX7 TX7 92, w ∈ wsX7_isWish := fun _ h => List.mem_cons_of_mem _ (List.mem_append_right _ h)
  refine lv_iload_n hx hb dX7_isWish_0 rfl (lv_at hl 1 rfl) ?_
  have J_21 : ∀   (H : Heap) (locs : List Loc) (ls : Array Slot), va_P (dC, dI) vwCl [(h, .inr (7, oM r i j)), ((r 18), .inl (cI, 2, .inl f18))] H → va_D A [(h, .inr (7, oM r i j)), ((r 18), .inl (cI, 2, .inl f18))] → va_S A s.heap H locs → lv_has ls 2 [] → W p l e ({ frames := 1, cells := 0, slots := 0, locals := 40 }) s m args below meth c H locs 0 0 (MQ below (va_Qi (fun (r9 : Int32) (u9 : Unit) => (iR r9 0 1) ∧ ((r9 = 0) ∨ ((0 ≤ x1) ∧ (x1 < (f18 (i 13).toNatClampNeg))))) (fun u => k_B (dC, dI) vwCl (tyy cI cJ cZ cM) A ((fun (u9 : Unit) => [(h, .inr (7, oM r i j)), ((r 18), .inl (cI, 2, .inl f18))]) u)) A) args s 0 0 A) (F0 m 21 ls []) := by
    intro   H locs ls hP hD hS hl
    refine lv_iconst (v := 0) hx hb dX7_isWish_21 (by decide +kernel) ?_
    exact k_ri B hP hD hS dX7_isWish_22 () [0, 1] rfl rfl rfl (Nat.le_of_ble_eq_true rfl) (Nat.le_of_ble_eq_true rfl) ⟨(show iR 0 0 1 from (iR_c (n := 0) (a := 0) (b := 1) (by decide +kernel) (by decide +kernel))), (show (0 = 0) ∨ ((0 ≤ x1) ∧ (x1 < (f18 (i 13).toNatClampNeg))) from (Or.inl rfl))⟩
  refine lv_if_lt (tgt := 21) hx hb dX7_isWish_1 (by decide) (fun c_1 => ?_) (fun c_1 => ?_)
  · have c_1 : x1 < 0 := c_1
    have f_21_1 : iR x1 (-2147483648) (-1) := iR_ltL c_1 (iR_top _) (iR_c (n := 0) (a := 0) (b := 0) (by decide +kernel) (by decide +kernel)) (by decide +kernel)
    exact J_21   H locs ls hP hD hS (lv_sub hl [] rfl)
  · have c_1 : 0 ≤ x1 := i_nlt c_1
    have f_4_1 : iR x1 0 2147483647 := iR_leR c_1 (iR_c (n := 0) (a := 0) (b := 0) (by decide +kernel) (by decide +kernel)) (iR_top _) (by decide +kernel)
    refine lv_iload_n hx hb dX7_isWish_4 rfl (lv_at hl 1 rfl) ?_
    refine lv_aload_n hx hb dX7_isWish_5 rfl (lv_at hl 0 rfl) ?_
    refine k_get (D := (dC, dI)) (ci := 7) (v := .ref (r 18)) (C := RX7) (T := TX7) (N := 92) hx hb hts hinX7 hown hK hP 0 rfl rfl 18 (by decide) w_0 rfl rfl dX7_isWish_6 ?_
    refine lv_aload_n hx hb dX7_isWish_9 rfl (lv_at hl 0 rfl) ?_
    have f_10_2 : iR (i 13) 0 1 := hI 13
    refine k_get (D := (dC, dI)) (ci := 7) (v := .int (i 13)) (C := RX7) (T := TX7) (N := 92) hx hb hts hinX7 hown hK hP 0 rfl rfl 13 (by decide) w_1 rfl rfl dX7_isWish_10 ?_
    refine va_iald hx hb hK hP 1 0 rfl rfl (iR_vp f_10_2 (by decide +kernel)) dX7_isWish_13 ?_
    have f_13_3 : iR (f18 (i 13).toNatClampNeg) 0 12 := hf18 _
    refine lv_icmp_ge (tgt := 21) hx hb dX7_isWish_14 (by decide) (fun c_14 => ?_) (fun c_14 => ?_)
    · have c_14 : (f18 (i 13).toNatClampNeg) ≤ x1 := c_14
      exact J_21   H locs ls hP hD hS (lv_sub hl [] rfl)
    · have c_14 : x1 < (f18 (i 13).toNatClampNeg) := i_nle c_14
      have f_17_4 : iR x1 0 11 := iR_ltL c_14 f_4_1 f_13_3 (by decide +kernel)
      have f_17_5 : iR (f18 (i 13).toNatClampNeg) 1 12 := iR_ltR c_14 f_4_1 f_13_3 (by decide +kernel)
      refine lv_iconst (v := 1) hx hb dX7_isWish_17 (by decide +kernel) ?_
      refine lv_goto (tgt := 22) hx hb dX7_isWish_18 (by decide) ?_
      exact k_ri B hP hD hS dX7_isWish_22 () [0, 1] rfl rfl rfl (Nat.le_of_ble_eq_true rfl) (Nat.le_of_ble_eq_true rfl) ⟨(show iR 1 0 1 from (iR_c (n := 1) (a := 0) (b := 1) (by decide +kernel) (by decide +kernel))), (show (1 = 0) ∨ ((0 ≤ x1) ∧ (x1 < (f18 (i 13).toNatClampNeg))) from (Or.inr ⟨c_1, c_14⟩))⟩
set_option maxHeartbeats 8000000 in
set_option maxRecDepth 100000 in
theorem s_X7_whyNot_v0 (l : Launch) (dC : Nat → ClassId) (dI : Nat → Nat → Nat) (cI cJ cZ cM : ClassId) (h : Nat) (r : Nat → Nat) (i : Nat → Int32) (j : Nat → Int64) (x1 : Int32) (f14 : Nat → Int32) (f15 : Nat → Int32) (f16 : Nat → Int32) (f19 : Nat → Int32) (f20 : Nat → Int32) (f21 : Nat → Int32) (f22 : Nat → Int32) (f26 : Nat → Int32) (f27 : Nat → Int32) (f28 : Nat → Int32) (f29 : Nat → Int32) (f32 : Nat → Int32) (f33 : Nat → Int32) (g61 : Nat → Int64) (hx1 : iR x1 0 11) (hI : mR i) (hf14 : aR f14 0 10) (hf15 : aR f15 0 9999) (hf20 : aR f20 0 9) (hf26 : aR f26 (-1) 1600) (hf27 : aR f27 0 1600) (hf28 : aR f28 (-1) 1600) (hf29 : aR f29 0 1600) (hsg26 : SEG f26 f27 f32 (i 13).toNatClampNeg 1600) (hsg28 : SEG f28 f29 f32 (i 13).toNatClampNeg 1600) : k_Mi l yX7_whyNot wsX7_whyNot ({ frames := 6, cells := 0, slots := 0, locals := 151 }) (dC, dI) vwCl (tyy cI cJ cZ cM) [(h, .inr (7, oM r i j)), ((r 14), .inl (cI, 2, .inl f14)), ((r 15), .inl (cI, 20, .inl f15)), ((r 16), .inl (cI, 20, .inl f16)), ((r 19), .inl (cI, 24, .inl f19)), ((r 20), .inl (cI, 24, .inl f20)), ((r 21), .inl (cI, 24, .inl f21)), ((r 22), .inl (cI, 24, .inl f22)), ((r 26), .inl (cI, 2, .inl f26)), ((r 27), .inl (cI, 2, .inl f27)), ((r 28), .inl (cI, 2, .inl f28)), ((r 29), .inl (cI, 2, .inl f29)), ((r 32), .inl (cI, 3200, .inl f32)), ((r 33), .inl (cI, 3200, .inl f33)), ((r 61), .inl (cJ, 500, .inr (.inl g61)))] [.ref h, .int x1] 0 0 (fun (u9 : SU) => [(h, .inr (7, oM r (upd i 66 (u9.1 0)) j)), ((r 14), .inl (cI, 2, .inl f14)), ((r 15), .inl (cI, 20, .inl f15)), ((r 16), .inl (cI, 20, .inl f16)), ((r 19), .inl (cI, 24, .inl f19)), ((r 20), .inl (cI, 24, .inl f20)), ((r 21), .inl (cI, 24, .inl f21)), ((r 22), .inl (cI, 24, .inl f22)), ((r 26), .inl (cI, 2, .inl f26)), ((r 27), .inl (cI, 2, .inl f27)), ((r 28), .inl (cI, 2, .inl f28)), ((r 29), .inl (cI, 2, .inl f29)), ((r 32), .inl (cI, 3200, .inl f32)), ((r 33), .inl (cI, 3200, .inl f33)), ((r 61), .inl (cJ, 500, .inr (.inl (u9.2.2.2.1 0))))]) (fun (r9 : Int32) (u9 : SU) => (iR r9 0 5) ∧ (iR (u9.1 0) (-1) 11) ∧ (r9 = myf f14 f15 f16 f19 f20 f21 f22 f26 f27 f28 f29 f32 f33 (i 13) (i 62) (i 63) (i 64) (i 65) x1)) := by
  refine fun sz => k_enter (cc := cX7_whyNot) (maxL := 3) (ret := some (.int)) (Qc := fun A => va_Qi (fun (r9 : Int32) (u9 : SU) => (iR r9 0 5) ∧ (iR (u9.1 0) (-1) 11) ∧ (r9 = myf f14 f15 f16 f19 f20 f21 f22 f26 f27 f28 f29 f32 f33 (i 13) (i 62) (i 63) (i 64) (i 65) x1)) (fun u => k_B (dC, dI) vwCl (tyy cI cJ cZ cM) A ((fun (u9 : SU) => [(h, .inr (7, oM r (upd i 66 (u9.1 0)) j)), ((r 14), .inl (cI, 2, .inl f14)), ((r 15), .inl (cI, 20, .inl f15)), ((r 16), .inl (cI, 20, .inl f16)), ((r 19), .inl (cI, 24, .inl f19)), ((r 20), .inl (cI, 24, .inl f20)), ((r 21), .inl (cI, 24, .inl f21)), ((r 22), .inl (cI, 24, .inl f22)), ((r 26), .inl (cI, 2, .inl f26)), ((r 27), .inl (cI, 2, .inl f27)), ((r 28), .inl (cI, 2, .inl f28)), ((r 29), .inl (cI, 2, .inl f29)), ((r 32), .inl (cI, 3200, .inl f32)), ((r 33), .inl (cI, 3200, .inl f33)), ((r 61), .inl (cJ, 500, .inr (.inl (u9.2.2.2.1 0))))]) u)) A) sz (by decide +kernel) rfl (Nat.le_of_ble_eq_true rfl) (fun p e s m args below meth c A ls H locs B hP hD hS hl => ?_)
  obtain ⟨hx, hb, hml, hown, hts, hr, hlk, hnm, hK, hA, hN, hC⟩ := id B
  have hown : s.vm.findClass RX7 = some m.cls := hown
  have hl : lv_has ls 3 [(0, .ref h), (1, .int x1)] := hl
  have w_0 : (Cond.fieldLink RX7 51 "WishSeaModel" "bank" "I").before args s = true := hts _ (List.mem_of_getElem? (i := 1) rfl)
  have w_1 : (Cond.fieldLink RX7 75 "WishSeaModel" "wishNeeds" "[I").before args s = true := hts _ (List.mem_of_getElem? (i := 2) rfl)
  have w_2 : (Cond.fieldLink RX7 201 "WishSeaModel" "askedHad" "I").before args s = true := hts _ (List.mem_of_getElem? (i := 3) rfl)
  have w_3 : (Cond.fieldLink RX7 78 "WishSeaModel" "wishUses" "[I").before args s = true := hts _ (List.mem_of_getElem? (i := 4) rfl)
  have hinX7 : ∀ w ∈ u_ws RX7 TX7 92, w ∈ wsX7_whyNot := fun _ h => List.mem_cons_of_mem _ (List.mem_append_right _ h)
  refine lv_bipush (v := 12) hx hb dX7_whyNot_0 (by decide +kernel) ?_
  refine lv_aload_n hx hb dX7_whyNot_2 rfl (lv_at hl 0 rfl) ?_
  have f_3_1 : iR (i 13) 0 1 := hI 13
  refine k_get (D := (dC, dI)) (ci := 7) (v := .int (i 13)) (C := RX7) (T := TX7) (N := 92) hx hb hts hinX7 hown hK hP 0 rfl rfl 13 (by decide) w_0 rfl rfl dX7_whyNot_3 ?_
  refine lv_imul hx hb dX7_whyNot_6 ?_
  refine lv_topi (fun y_6 ey_6 => ?_)
  have xy_6 : y_6.toInt = 12 * (i 13).toInt := i_mul ey_6 (iR_c (n := 12) (a := 12) (b := 12) (by decide +kernel) (by decide +kernel)) f_3_1 (by decide +kernel)
  have f_6_2 : iR y_6 0 12 := iR_mul ey_6 (iR_c (n := 12) (a := 12) (b := 12) (by decide +kernel) (by decide +kernel)) f_3_1 (by decide +kernel)
  refine lv_iload_n hx hb dX7_whyNot_7 rfl (lv_at hl 1 rfl) ?_
  refine lv_iadd hx hb dX7_whyNot_8 ?_
  refine lv_topi (fun y_8 ey_8 => ?_)
  have xy_8 : y_8.toInt = y_6.toInt + x1.toInt := i_add ey_8 f_6_2 hx1 (by decide +kernel)
  have f_8_3 : iR y_8 0 23 := iR_add ey_8 f_6_2 hx1 (by decide +kernel)
  refine lv_istore_n (lv' := [(2, .int y_8), (0, .ref h), (1, .int x1)]) hx hb dX7_whyNot_9 rfl hl (by decide) rfl (fun ls hl => ?_)
  refine lv_aload_n hx hb dX7_whyNot_10 rfl (lv_at hl 1 rfl) ?_
  refine k_get (D := (dC, dI)) (ci := 7) (v := .ref (r 21)) (C := RX7) (T := TX7) (N := 92) hx hb hts hinX7 hown hK hP 0 rfl rfl 21 (by decide) w_1 rfl rfl dX7_whyNot_11 ?_
  refine lv_iload_n hx hb dX7_whyNot_14 rfl (lv_at hl 0 rfl) ?_
  refine va_iald hx hb hK hP 6 0 rfl rfl (iR_vp f_8_3 (by decide +kernel)) dX7_whyNot_15 ?_
  refine lv_aload_n hx hb dX7_whyNot_16 rfl (lv_at hl 1 rfl) ?_
  refine k_get (D := (dC, dI)) (ci := 7) (v := .int (i 62)) (C := RX7) (T := TX7) (N := 92) hx hb hts hinX7 hown hK hP 0 rfl rfl 62 (by decide) w_2 rfl rfl dX7_whyNot_17 ?_
  refine lv_iconst (v := (-1)) hx hb dX7_whyNot_20 (by decide +kernel) ?_
  refine lv_ixor hx hb dX7_whyNot_21 ?_
  refine lv_topi (fun y_21 ey_21 => ?_)
  refine lv_iand hx hb dX7_whyNot_22 ?_
  refine lv_topi (fun y_22 ey_22 => ?_)
  refine lv_if_eq (tgt := 28) hx hb dX7_whyNot_23 (by decide) (fun c_23 => ?_) (fun c_23 => ?_)
  · have c_23 : y_22 = 0 := c_23
    have f_28_4 : iR y_22 0 0 := iR_eqL c_23 (iR_top _) (iR_c (n := 0) (a := 0) (b := 0) (by decide +kernel) (by decide +kernel)) (by decide +kernel)
    refine lv_aload_n hx hb dX7_whyNot_28 rfl (lv_at hl 1 rfl) ?_
    refine k_get (D := (dC, dI)) (ci := 7) (v := .ref (r 22)) (C := RX7) (T := TX7) (N := 92) hx hb hts hinX7 hown hK hP 0 rfl rfl 22 (by decide) w_3 rfl rfl dX7_whyNot_29 ?_
    refine lv_iload_n hx hb dX7_whyNot_32 rfl (lv_at hl 0 rfl) ?_
    refine va_iald hx hb hK hP 7 0 rfl rfl (iR_vp f_8_3 (by decide +kernel)) dX7_whyNot_33 ?_
    refine lv_aload_n hx hb dX7_whyNot_34 rfl (lv_at hl 1 rfl) ?_
    refine k_get (D := (dC, dI)) (ci := 7) (v := .int (i 62)) (C := RX7) (T := TX7) (N := 92) hx hb hts hinX7 hown hK hP 0 rfl rfl 62 (by decide) w_2 rfl rfl dX7_whyNot_35 ?_
    refine lv_iconst (v := (-1)) hx hb dX7_whyNot_38 (by decide +kernel) ?_
    refine lv_ixor hx hb dX7_whyNot_39 ?_
    refine lv_topi (fun y_39 ey_39 => ?_)
    refine lv_iand hx hb dX7_whyNot_40 ?_
    refine lv_topi (fun y_40 ey_40 => ?_)
    refine lv_if_eq (tgt := 46) hx hb dX7_whyNot_41 (by decide) (fun c_41 => ?_) (fun c_41 => ?_)
    · have c_41 : y_40 = 0 := c_41
      have f_46_5 : iR y_40 0 0 := iR_eqL c_41 (iR_top _) (iR_c (n := 0) (a := 0) (b := 0) (by decide +kernel) (by decide +kernel)) (by decide +kernel)
      refine lv_aload_n hx hb dX7_whyNot_46 rfl (lv_at hl 1 rfl) ?_
      refine k_get (D := (dC, dI)) (ci := 7) (v := .int (i 62)) (C := RX7) (T := TX7) (N := 92) hx hb hts hinX7 hown hK hP 0 rfl rfl 62 (by decide) w_2 rfl rfl dX7_whyNot_47 ?_
      refine lv_aload_n hx hb dX7_whyNot_50 rfl (lv_at hl 1 rfl) ?_
      refine lv_iload_n hx hb dX7_whyNot_51 rfl (lv_at hl 2 rfl) ?_
      refine k_ci (wc := [(h, .inr (7, oM r i j)), ((r 20), .inl (cI, 24, .inl f20))]) (wr := [((r 14), .inl (cI, 2, .inl f14)), ((r 15), .inl (cI, 20, .inl f15)), ((r 16), .inl (cI, 20, .inl f16)), ((r 19), .inl (cI, 24, .inl f19)), ((r 21), .inl (cI, 24, .inl f21)), ((r 22), .inl (cI, 24, .inl f22)), ((r 26), .inl (cI, 2, .inl f26)), ((r 27), .inl (cI, 2, .inl f27)), ((r 28), .inl (cI, 2, .inl f28)), ((r 29), .inl (cI, 2, .inl f29)), ((r 32), .inl (cI, 3200, .inl f32)), ((r 33), .inl (cI, 3200, .inl f33)), ((r 61), .inl (cJ, 500, .inr (.inl g61)))]) (fun hPc hDc hFc => va_runV (As := [.int x1]) (rest := [.int (i 62)]) ⟨hx, hb, hml, hown, hts⟩ (s_X7_givesOf_v0 l dC dI cI cJ cZ cM h r i j x1 f20 hx1 hI hf20 H.size) (cwV 1 hts gX7_whyNot_X7_givesOf rfl rfl rfl (by decide +kernel) ⟨(Nat.le_of_ble_eq_true rfl), (Nat.le_of_ble_eq_true rfl)⟩) (k_pV hPc hDc hK hN hC hS hFc hP (q0 := 0) (ci := 7) rfl rfl) rfl rfl hl.1 rfl (lv_room (Nat.le_of_ble_eq_true rfl)) dX7_whyNot_52 ⟨(Nat.le_of_ble_eq_true rfl), (Nat.le_of_ble_eq_true rfl)⟩) hP hD hS hA [0, 5] [1, 2, 3, 4, 6, 7, 8, 9, 10, 11, 12, 13, 14] rfl rfl rfl rfl (by decide) (fun _ => rfl) 0 0 rfl rfl (fun r_52 u_52 H locs hw hP hD hS => ?_)
      obtain ⟨g_52_0, g_52_1⟩ := hw
      have hP : va_P (dC, dI) vwCl [((r 14), .inl (cI, 2, .inl f14)), ((r 15), .inl (cI, 20, .inl f15)), ((r 16), .inl (cI, 20, .inl f16)), ((r 19), .inl (cI, 24, .inl f19)), ((r 21), .inl (cI, 24, .inl f21)), ((r 22), .inl (cI, 24, .inl f22)), ((r 26), .inl (cI, 2, .inl f26)), ((r 27), .inl (cI, 2, .inl f27)), ((r 28), .inl (cI, 2, .inl f28)), ((r 29), .inl (cI, 2, .inl f29)), ((r 32), .inl (cI, 3200, .inl f32)), ((r 33), .inl (cI, 3200, .inl f33)), ((r 61), .inl (cJ, 500, .inr (.inl g61))), (h, .inr (7, oM r i j)), ((r 20), .inl (cI, 24, .inl f20))] H := hP
      have hD : va_D A [((r 14), .inl (cI, 2, .inl f14)), ((r 15), .inl (cI, 20, .inl f15)), ((r 16), .inl (cI, 20, .inl f16)), ((r 19), .inl (cI, 24, .inl f19)), ((r 21), .inl (cI, 24, .inl f21)), ((r 22), .inl (cI, 24, .inl f22)), ((r 26), .inl (cI, 2, .inl f26)), ((r 27), .inl (cI, 2, .inl f27)), ((r 28), .inl (cI, 2, .inl f28)), ((r 29), .inl (cI, 2, .inl f29)), ((r 32), .inl (cI, 3200, .inl f32)), ((r 33), .inl (cI, 3200, .inl f33)), ((r 61), .inl (cJ, 500, .inr (.inl g61))), (h, .inr (7, oM r i j)), ((r 20), .inl (cI, 24, .inl f20))] := hD
      have g_52_1 : r_52 = f20 (12 * (i 13).toNatClampNeg + x1.toNatClampNeg) := g_52_1
      refine k_ci (wc := []) (wr := [((r 14), .inl (cI, 2, .inl f14)), ((r 15), .inl (cI, 20, .inl f15)), ((r 16), .inl (cI, 20, .inl f16)), ((r 19), .inl (cI, 24, .inl f19)), ((r 21), .inl (cI, 24, .inl f21)), ((r 22), .inl (cI, 24, .inl f22)), ((r 26), .inl (cI, 2, .inl f26)), ((r 27), .inl (cI, 2, .inl f27)), ((r 28), .inl (cI, 2, .inl f28)), ((r 29), .inl (cI, 2, .inl f29)), ((r 32), .inl (cI, 3200, .inl f32)), ((r 33), .inl (cI, 3200, .inl f33)), ((r 61), .inl (cJ, 500, .inr (.inl g61))), (h, .inr (7, oM r i j)), ((r 20), .inl (cI, 24, .inl f20))]) (fun hPc hDc hFc => va_runS (As := [.int (i 62), .int r_52]) (rest := []) ⟨hx, hb, hml, hown, hts⟩ (s_X7_holds_v0 l dC dI cI cJ cZ cM (i 62) r_52 H.size) (va_cwS 2 hts gX7_whyNot_X7_holds rfl rfl rfl (by decide +kernel) ⟨(Nat.le_of_ble_eq_true rfl), (Nat.le_of_ble_eq_true rfl)⟩) (k_pS hPc hDc hK hN hC hS hFc) rfl rfl hl.1 rfl (lv_room (Nat.le_of_ble_eq_true rfl)) dX7_whyNot_55 ⟨(Nat.le_of_ble_eq_true rfl), (Nat.le_of_ble_eq_true rfl)⟩) hP hD hS hA [] [0, 1, 2, 3, 4, 5, 6, 7, 8, 9, 10, 11, 12, 13, 14] rfl rfl rfl rfl (by decide) (fun _ => rfl) 0 0 rfl rfl (fun r_55 u_55 H locs hw hP hD hS => ?_)
      obtain ⟨g_55_0, g_55_1⟩ := hw
      have hP : va_P (dC, dI) vwCl [((r 14), .inl (cI, 2, .inl f14)), ((r 15), .inl (cI, 20, .inl f15)), ((r 16), .inl (cI, 20, .inl f16)), ((r 19), .inl (cI, 24, .inl f19)), ((r 21), .inl (cI, 24, .inl f21)), ((r 22), .inl (cI, 24, .inl f22)), ((r 26), .inl (cI, 2, .inl f26)), ((r 27), .inl (cI, 2, .inl f27)), ((r 28), .inl (cI, 2, .inl f28)), ((r 29), .inl (cI, 2, .inl f29)), ((r 32), .inl (cI, 3200, .inl f32)), ((r 33), .inl (cI, 3200, .inl f33)), ((r 61), .inl (cJ, 500, .inr (.inl g61))), (h, .inr (7, oM r i j)), ((r 20), .inl (cI, 24, .inl f20))] H := hP
      have hD : va_D A [((r 14), .inl (cI, 2, .inl f14)), ((r 15), .inl (cI, 20, .inl f15)), ((r 16), .inl (cI, 20, .inl f16)), ((r 19), .inl (cI, 24, .inl f19)), ((r 21), .inl (cI, 24, .inl f21)), ((r 22), .inl (cI, 24, .inl f22)), ((r 26), .inl (cI, 2, .inl f26)), ((r 27), .inl (cI, 2, .inl f27)), ((r 28), .inl (cI, 2, .inl f28)), ((r 29), .inl (cI, 2, .inl f29)), ((r 32), .inl (cI, 3200, .inl f32)), ((r 33), .inl (cI, 3200, .inl f33)), ((r 61), .inl (cJ, 500, .inr (.inl g61))), (h, .inr (7, oM r i j)), ((r 20), .inl (cI, 24, .inl f20))] := hD
      have g_55_1 : r_55 = hof (i 62) r_52 := g_55_1
      refine lv_if_eq (tgt := 63) hx hb dX7_whyNot_58 (by decide) (fun c_58 => ?_) (fun c_58 => ?_)
      · have c_58 : r_55 = 0 := c_58
        have f_63_6 : iR r_55 0 0 := iR_eqL c_58 g_55_0 (iR_c (n := 0) (a := 0) (b := 0) (by decide +kernel) (by decide +kernel)) (by decide +kernel)
        refine lv_aload_n hx hb dX7_whyNot_63 rfl (lv_at hl 1 rfl) ?_
        refine lv_iload_n hx hb dX7_whyNot_64 rfl (lv_at hl 2 rfl) ?_
        refine k_ci (wc := [(h, .inr (7, oM r i j)), ((r 19), .inl (cI, 24, .inl f19))]) (wr := [((r 14), .inl (cI, 2, .inl f14)), ((r 15), .inl (cI, 20, .inl f15)), ((r 16), .inl (cI, 20, .inl f16)), ((r 21), .inl (cI, 24, .inl f21)), ((r 22), .inl (cI, 24, .inl f22)), ((r 26), .inl (cI, 2, .inl f26)), ((r 27), .inl (cI, 2, .inl f27)), ((r 28), .inl (cI, 2, .inl f28)), ((r 29), .inl (cI, 2, .inl f29)), ((r 32), .inl (cI, 3200, .inl f32)), ((r 33), .inl (cI, 3200, .inl f33)), ((r 61), .inl (cJ, 500, .inr (.inl g61))), ((r 20), .inl (cI, 24, .inl f20))]) (fun hPc hDc hFc => va_runV (As := [.int x1]) (rest := []) ⟨hx, hb, hml, hown, hts⟩ (s_X7_wordsOf_v0 l dC dI cI cJ cZ cM h r i j x1 f19 hx1 hI H.size) (cwV 1 hts gX7_whyNot_X7_wordsOf rfl rfl rfl (by decide +kernel) ⟨(Nat.le_of_ble_eq_true rfl), (Nat.le_of_ble_eq_true rfl)⟩) (k_pV hPc hDc hK hN hC hS hFc hP (q0 := 13) (ci := 7) rfl rfl) rfl rfl hl.1 rfl (lv_room (Nat.le_of_ble_eq_true rfl)) dX7_whyNot_65 ⟨(Nat.le_of_ble_eq_true rfl), (Nat.le_of_ble_eq_true rfl)⟩) hP hD hS hA [13, 3] [0, 1, 2, 4, 5, 6, 7, 8, 9, 10, 11, 12, 14] rfl rfl rfl rfl (by decide) (fun _ => rfl) 0 0 rfl rfl (fun r_65 u_65 H locs hw hP hD hS => ?_)
        have g_65_0 := hw
        have hP : va_P (dC, dI) vwCl [((r 14), .inl (cI, 2, .inl f14)), ((r 15), .inl (cI, 20, .inl f15)), ((r 16), .inl (cI, 20, .inl f16)), ((r 21), .inl (cI, 24, .inl f21)), ((r 22), .inl (cI, 24, .inl f22)), ((r 26), .inl (cI, 2, .inl f26)), ((r 27), .inl (cI, 2, .inl f27)), ((r 28), .inl (cI, 2, .inl f28)), ((r 29), .inl (cI, 2, .inl f29)), ((r 32), .inl (cI, 3200, .inl f32)), ((r 33), .inl (cI, 3200, .inl f33)), ((r 61), .inl (cJ, 500, .inr (.inl g61))), ((r 20), .inl (cI, 24, .inl f20)), (h, .inr (7, oM r i j)), ((r 19), .inl (cI, 24, .inl f19))] H := hP
        have hD : va_D A [((r 14), .inl (cI, 2, .inl f14)), ((r 15), .inl (cI, 20, .inl f15)), ((r 16), .inl (cI, 20, .inl f16)), ((r 21), .inl (cI, 24, .inl f21)), ((r 22), .inl (cI, 24, .inl f22)), ((r 26), .inl (cI, 2, .inl f26)), ((r 27), .inl (cI, 2, .inl f27)), ((r 28), .inl (cI, 2, .inl f28)), ((r 29), .inl (cI, 2, .inl f29)), ((r 32), .inl (cI, 3200, .inl f32)), ((r 33), .inl (cI, 3200, .inl f33)), ((r 61), .inl (cJ, 500, .inr (.inl g61))), ((r 20), .inl (cI, 24, .inl f20)), (h, .inr (7, oM r i j)), ((r 19), .inl (cI, 24, .inl f19))] := hD
        have g_65_0 : r_65 = f19 (12 * (i 13).toNatClampNeg + x1.toNatClampNeg) := g_65_0
        refine lv_aload_n hx hb dX7_whyNot_68 rfl (lv_at hl 1 rfl) ?_
        refine lv_iload_n hx hb dX7_whyNot_69 rfl (lv_at hl 2 rfl) ?_
        refine k_ci (wc := [(h, .inr (7, oM r i j)), ((r 16), .inl (cI, 20, .inl f16)), ((r 20), .inl (cI, 24, .inl f20))]) (wr := [((r 14), .inl (cI, 2, .inl f14)), ((r 15), .inl (cI, 20, .inl f15)), ((r 21), .inl (cI, 24, .inl f21)), ((r 22), .inl (cI, 24, .inl f22)), ((r 26), .inl (cI, 2, .inl f26)), ((r 27), .inl (cI, 2, .inl f27)), ((r 28), .inl (cI, 2, .inl f28)), ((r 29), .inl (cI, 2, .inl f29)), ((r 32), .inl (cI, 3200, .inl f32)), ((r 33), .inl (cI, 3200, .inl f33)), ((r 61), .inl (cJ, 500, .inr (.inl g61))), ((r 19), .inl (cI, 24, .inl f19))]) (fun hPc hDc hFc => va_runV (As := [.int x1]) (rest := [.int r_65]) ⟨hx, hb, hml, hown, hts⟩ (s_X7_rhymeOf_v0 l dC dI cI cJ cZ cM h r i j x1 f16 f20 hx1 hI hf20 H.size) (cwV 1 hts gX7_whyNot_X7_rhymeOf rfl rfl rfl (by decide +kernel) ⟨(Nat.le_of_ble_eq_true rfl), (Nat.le_of_ble_eq_true rfl)⟩) (k_pV hPc hDc hK hN hC hS hFc hP (q0 := 13) (ci := 7) rfl rfl) rfl rfl hl.1 rfl (lv_room (Nat.le_of_ble_eq_true rfl)) dX7_whyNot_70 ⟨(Nat.le_of_ble_eq_true rfl), (Nat.le_of_ble_eq_true rfl)⟩) hP hD hS hA [13, 2, 12] [0, 1, 3, 4, 5, 6, 7, 8, 9, 10, 11, 14] rfl rfl rfl rfl (by decide) (fun _ => rfl) 0 0 rfl rfl (fun r_70 u_70 H locs hw hP hD hS => ?_)
        have g_70_0 := hw
        have hP : va_P (dC, dI) vwCl [((r 14), .inl (cI, 2, .inl f14)), ((r 15), .inl (cI, 20, .inl f15)), ((r 21), .inl (cI, 24, .inl f21)), ((r 22), .inl (cI, 24, .inl f22)), ((r 26), .inl (cI, 2, .inl f26)), ((r 27), .inl (cI, 2, .inl f27)), ((r 28), .inl (cI, 2, .inl f28)), ((r 29), .inl (cI, 2, .inl f29)), ((r 32), .inl (cI, 3200, .inl f32)), ((r 33), .inl (cI, 3200, .inl f33)), ((r 61), .inl (cJ, 500, .inr (.inl g61))), ((r 19), .inl (cI, 24, .inl f19)), (h, .inr (7, oM r i j)), ((r 16), .inl (cI, 20, .inl f16)), ((r 20), .inl (cI, 24, .inl f20))] H := hP
        have hD : va_D A [((r 14), .inl (cI, 2, .inl f14)), ((r 15), .inl (cI, 20, .inl f15)), ((r 21), .inl (cI, 24, .inl f21)), ((r 22), .inl (cI, 24, .inl f22)), ((r 26), .inl (cI, 2, .inl f26)), ((r 27), .inl (cI, 2, .inl f27)), ((r 28), .inl (cI, 2, .inl f28)), ((r 29), .inl (cI, 2, .inl f29)), ((r 32), .inl (cI, 3200, .inl f32)), ((r 33), .inl (cI, 3200, .inl f33)), ((r 61), .inl (cJ, 500, .inr (.inl g61))), ((r 19), .inl (cI, 24, .inl f19)), (h, .inr (7, oM r i j)), ((r 16), .inl (cI, 20, .inl f16)), ((r 20), .inl (cI, 24, .inl f20))] := hD
        have g_70_0 : r_70 = f16 (10 * (i 13).toNatClampNeg + (f20 (12 * (i 13).toNatClampNeg + x1.toNatClampNeg)).toNatClampNeg) := g_70_0
        refine lv_iadd hx hb dX7_whyNot_73 ?_
        refine lv_topi (fun y_73 ey_73 => ?_)
        refine lv_aload_n hx hb dX7_whyNot_74 rfl (lv_at hl 1 rfl) ?_
        refine k_ci (wc := [(h, .inr (7, oM r i j)), ((r 14), .inl (cI, 2, .inl f14)), ((r 15), .inl (cI, 20, .inl f15)), ((r 16), .inl (cI, 20, .inl f16)), ((r 19), .inl (cI, 24, .inl f19)), ((r 20), .inl (cI, 24, .inl f20)), ((r 26), .inl (cI, 2, .inl f26)), ((r 27), .inl (cI, 2, .inl f27)), ((r 32), .inl (cI, 3200, .inl f32)), ((r 33), .inl (cI, 3200, .inl f33)), ((r 61), .inl (cJ, 500, .inr (.inl g61)))]) (wr := [((r 21), .inl (cI, 24, .inl f21)), ((r 22), .inl (cI, 24, .inl f22)), ((r 28), .inl (cI, 2, .inl f28)), ((r 29), .inl (cI, 2, .inl f29))]) (fun hPc hDc hFc => va_runV (As := []) (rest := [.int y_73]) ⟨hx, hb, hml, hown, hts⟩ (s_X7_roomNow_v0 l dC dI cI cJ cZ cM h r i j f14 f15 f16 f19 f20 f26 f27 f32 f33 g61 hI hf14 hf15 hf20 hf26 hf27 hsg26 H.size) (cwV 0 hts gX7_whyNot_X7_roomNow rfl rfl rfl (by decide +kernel) ⟨(Nat.le_of_ble_eq_true rfl), (Nat.le_of_ble_eq_true rfl)⟩) (k_pV hPc hDc hK hN hC hS hFc hP (q0 := 12) (ci := 7) rfl rfl) rfl rfl hl.1 rfl (lv_room (Nat.le_of_ble_eq_true rfl)) dX7_whyNot_75 ⟨(Nat.le_of_ble_eq_true rfl), (Nat.le_of_ble_eq_true rfl)⟩) hP hD hS hA [12, 0, 1, 13, 11, 14, 4, 5, 8, 9, 10] [2, 3, 6, 7] rfl rfl rfl rfl (by decide) (fun _ => rfl) 0 0 rfl rfl (fun r_75 u_75 H locs hw hP hD hS => ?_)
        obtain ⟨g_75_0, g_75_1⟩ := hw
        have hP : va_P (dC, dI) vwCl [((r 21), .inl (cI, 24, .inl f21)), ((r 22), .inl (cI, 24, .inl f22)), ((r 28), .inl (cI, 2, .inl f28)), ((r 29), .inl (cI, 2, .inl f29)), (h, .inr (7, oM r (upd i 66 (-1)) j)), ((r 14), .inl (cI, 2, .inl f14)), ((r 15), .inl (cI, 20, .inl f15)), ((r 16), .inl (cI, 20, .inl f16)), ((r 19), .inl (cI, 24, .inl f19)), ((r 20), .inl (cI, 24, .inl f20)), ((r 26), .inl (cI, 2, .inl f26)), ((r 27), .inl (cI, 2, .inl f27)), ((r 32), .inl (cI, 3200, .inl f32)), ((r 33), .inl (cI, 3200, .inl f33)), ((r 61), .inl (cJ, 500, .inr (.inl (u_75.2.2.2.1 0))))] H := hP
        have hD : va_D A [((r 21), .inl (cI, 24, .inl f21)), ((r 22), .inl (cI, 24, .inl f22)), ((r 28), .inl (cI, 2, .inl f28)), ((r 29), .inl (cI, 2, .inl f29)), (h, .inr (7, oM r (upd i 66 (-1)) j)), ((r 14), .inl (cI, 2, .inl f14)), ((r 15), .inl (cI, 20, .inl f15)), ((r 16), .inl (cI, 20, .inl f16)), ((r 19), .inl (cI, 24, .inl f19)), ((r 20), .inl (cI, 24, .inl f20)), ((r 26), .inl (cI, 2, .inl f26)), ((r 27), .inl (cI, 2, .inl f27)), ((r 32), .inl (cI, 3200, .inl f32)), ((r 33), .inl (cI, 3200, .inl f33)), ((r 61), .inl (cJ, 500, .inr (.inl (u_75.2.2.2.1 0))))] := hD
        have g_75_1 : r_75 = rmf f26 f27 f32 f33 (envf f14 f15 f16 f19 f20 (i 13) (i 62) (i 63) (i 64) (i 65) (-1)) (i 13).toNatClampNeg := g_75_1
        refine lv_icmp_le (tgt := 83) hx hb dX7_whyNot_78 (by decide) (fun c_78 => ?_) (fun c_78 => ?_)
        · have c_78 : y_73 ≤ r_75 := c_78
          have f_83_7 : iR y_73 (-2147483648) 99 := iR_leL c_78 (iR_top _) g_75_0 (by decide +kernel)
          refine lv_aload_n hx hb dX7_whyNot_83 rfl (lv_at hl 1 rfl) ?_
          refine k_ci (wc := [(h, .inr (7, oM r (upd i 66 (-1)) j)), ((r 14), .inl (cI, 2, .inl f14)), ((r 15), .inl (cI, 20, .inl f15)), ((r 16), .inl (cI, 20, .inl f16)), ((r 19), .inl (cI, 24, .inl f19)), ((r 20), .inl (cI, 24, .inl f20)), ((r 28), .inl (cI, 2, .inl f28)), ((r 29), .inl (cI, 2, .inl f29)), ((r 32), .inl (cI, 3200, .inl f32)), ((r 33), .inl (cI, 3200, .inl f33)), ((r 61), .inl (cJ, 500, .inr (.inl (u_75.2.2.2.1 0))))]) (wr := [((r 21), .inl (cI, 24, .inl f21)), ((r 22), .inl (cI, 24, .inl f22)), ((r 26), .inl (cI, 2, .inl f26)), ((r 27), .inl (cI, 2, .inl f27))]) (fun hPc hDc hFc => va_runV (As := []) (rest := []) ⟨hx, hb, hml, hown, hts⟩ (s_X7_isContent_v0 l dC dI cI cJ cZ cM h r (upd i 66 (-1)) j f14 f15 f16 f19 f20 f28 f29 f32 f33 (u_75.2.2.2.1 0) (mR_upd 66 hI (show iR _ (loI 66) (hiI 66) from (iR_c (n := (-1)) (a := (-1)) (b := 11) (by decide +kernel) (by decide +kernel)))) hf14 hf15 hf20 hf28 hf29 hsg28 H.size) (cwV 0 hts gX7_whyNot_X7_isContent rfl rfl rfl (by decide +kernel) ⟨(Nat.le_of_ble_eq_true rfl), (Nat.le_of_ble_eq_true rfl)⟩) (k_pV hPc hDc hK hN hC hS hFc hP (q0 := 4) (ci := 7) rfl rfl) rfl rfl hl.1 rfl (lv_room (Nat.le_of_ble_eq_true rfl)) dX7_whyNot_84 ⟨(Nat.le_of_ble_eq_true rfl), (Nat.le_of_ble_eq_true rfl)⟩) hP hD hS hA [4, 5, 6, 7, 8, 9, 2, 3, 12, 13, 14] [0, 1, 10, 11] rfl rfl rfl rfl (by decide) (fun _ => rfl) 0 0 rfl rfl (fun r_84 u_84 H locs hw hP hD hS => ?_)
          obtain ⟨g_84_0, g_84_1⟩ := hw
          have hP : va_P (dC, dI) vwCl [((r 21), .inl (cI, 24, .inl f21)), ((r 22), .inl (cI, 24, .inl f22)), ((r 26), .inl (cI, 2, .inl f26)), ((r 27), .inl (cI, 2, .inl f27)), (h, .inr (7, oM r (upd i 66 (-1)) j)), ((r 14), .inl (cI, 2, .inl f14)), ((r 15), .inl (cI, 20, .inl f15)), ((r 16), .inl (cI, 20, .inl f16)), ((r 19), .inl (cI, 24, .inl f19)), ((r 20), .inl (cI, 24, .inl f20)), ((r 28), .inl (cI, 2, .inl f28)), ((r 29), .inl (cI, 2, .inl f29)), ((r 32), .inl (cI, 3200, .inl f32)), ((r 33), .inl (cI, 3200, .inl f33)), ((r 61), .inl (cJ, 500, .inr (.inl (u_84.2.2.2.1 0))))] H := hP
          have hD : va_D A [((r 21), .inl (cI, 24, .inl f21)), ((r 22), .inl (cI, 24, .inl f22)), ((r 26), .inl (cI, 2, .inl f26)), ((r 27), .inl (cI, 2, .inl f27)), (h, .inr (7, oM r (upd i 66 (-1)) j)), ((r 14), .inl (cI, 2, .inl f14)), ((r 15), .inl (cI, 20, .inl f15)), ((r 16), .inl (cI, 20, .inl f16)), ((r 19), .inl (cI, 24, .inl f19)), ((r 20), .inl (cI, 24, .inl f20)), ((r 28), .inl (cI, 2, .inl f28)), ((r 29), .inl (cI, 2, .inl f29)), ((r 32), .inl (cI, 3200, .inl f32)), ((r 33), .inl (cI, 3200, .inl f33)), ((r 61), .inl (cJ, 500, .inr (.inl (u_84.2.2.2.1 0))))] := hD
          have g_84_1 : r_84 = ctf f28 f29 f32 f33 (envf f14 f15 f16 f19 f20 (i 13) (i 62) (i 63) (i 64) (i 65) (-1)) (i 13).toNatClampNeg := g_84_1
          refine lv_if_eq (tgt := 94) hx hb dX7_whyNot_87 (by decide) (fun c_87 => ?_) (fun c_87 => ?_)
          · have c_87 : r_84 = 0 := c_87
            have f_94_8 : iR r_84 0 0 := iR_eqL c_87 g_84_0 (iR_c (n := 0) (a := 0) (b := 0) (by decide +kernel) (by decide +kernel)) (by decide +kernel)
            refine lv_iconst (v := 0) hx hb dX7_whyNot_94 (by decide +kernel) ?_
            exact k_ri B hP hD hS dX7_whyNot_95 ((fun k9 => match k9 with | 0 => -1 | _ => 0), (fun _ => 0), (fun _ => (fun _ => 0)), (fun k9 => match k9 with | 0 => (u_84.2.2.2.1 0) | _ => (fun _ => 0)), (fun _ => 0)) [4, 5, 6, 7, 8, 9, 0, 1, 2, 3, 10, 11, 12, 13, 14] rfl rfl rfl (Nat.le_of_ble_eq_true rfl) (Nat.le_of_ble_eq_true rfl) ⟨(show iR 0 0 5 from (iR_c (n := 0) (a := 0) (b := 5) (by decide +kernel) (by decide +kernel))), (show iR (-1) (-1) 11 from (iR_c (n := (-1)) (a := (-1)) (b := 11) (by decide +kernel) (by decide +kernel))), (show 0 = myf f14 f15 f16 f19 f20 f21 f22 f26 f27 f28 f29 f32 f33 (i 13) (i 62) (i 63) (i 64) (i 65) x1 from (by have ek : y_8.toNatClampNeg = 12 * (i 13).toNatClampNeg + x1.toNatClampNeg := (by have c0 := iR_cn f_8_3 (by decide +kernel); have c1 := iR_cn f_3_1 (by decide +kernel); have c2 := iR_cn hx1 (by decide +kernel); omega); exact whf_5 ey_21 (by rw [← ek]; exact ey_22) c_23 ey_39 (by rw [← ek]; exact ey_40) c_41 (by rw [← g_52_1]; exact g_55_1) c_58 (by rw [← g_65_0, ← g_70_0]; exact ey_73) g_75_1 c_78 g_84_1 (Or.inr ⟨c_87, rfl⟩)))⟩
          · have c_87 : ¬ r_84 = 0 := c_87
            have f_90_8 : iR r_84 1 1 := iR_neL c_87 g_84_0 (iR_c (n := 0) (a := 0) (b := 0) (by decide +kernel) (by decide +kernel)) (by decide +kernel)
            refine lv_iconst (v := 5) hx hb dX7_whyNot_90 (by decide +kernel) ?_
            refine lv_goto (tgt := 95) hx hb dX7_whyNot_91 (by decide) ?_
            exact k_ri B hP hD hS dX7_whyNot_95 ((fun k9 => match k9 with | 0 => -1 | _ => 0), (fun _ => 0), (fun _ => (fun _ => 0)), (fun k9 => match k9 with | 0 => (u_84.2.2.2.1 0) | _ => (fun _ => 0)), (fun _ => 0)) [4, 5, 6, 7, 8, 9, 0, 1, 2, 3, 10, 11, 12, 13, 14] rfl rfl rfl (Nat.le_of_ble_eq_true rfl) (Nat.le_of_ble_eq_true rfl) ⟨(show iR 5 0 5 from (iR_c (n := 5) (a := 0) (b := 5) (by decide +kernel) (by decide +kernel))), (show iR (-1) (-1) 11 from (iR_c (n := (-1)) (a := (-1)) (b := 11) (by decide +kernel) (by decide +kernel))), (show 5 = myf f14 f15 f16 f19 f20 f21 f22 f26 f27 f28 f29 f32 f33 (i 13) (i 62) (i 63) (i 64) (i 65) x1 from (by have ek : y_8.toNatClampNeg = 12 * (i 13).toNatClampNeg + x1.toNatClampNeg := (by have c0 := iR_cn f_8_3 (by decide +kernel); have c1 := iR_cn f_3_1 (by decide +kernel); have c2 := iR_cn hx1 (by decide +kernel); omega); exact whf_5 ey_21 (by rw [← ek]; exact ey_22) c_23 ey_39 (by rw [← ek]; exact ey_40) c_41 (by rw [← g_52_1]; exact g_55_1) c_58 (by rw [← g_65_0, ← g_70_0]; exact ey_73) g_75_1 c_78 g_84_1 (Or.inl ⟨c_87, rfl⟩)))⟩
        · have c_78 : r_75 < y_73 := i_nle c_78
          have f_81_7 : iR y_73 1 2147483647 := iR_ltR c_78 g_75_0 (iR_top _) (by decide +kernel)
          refine lv_iconst (v := 4) hx hb dX7_whyNot_81 (by decide +kernel) ?_
          exact k_ri B hP hD hS dX7_whyNot_82 ((fun k9 => match k9 with | 0 => -1 | _ => 0), (fun _ => 0), (fun _ => (fun _ => 0)), (fun k9 => match k9 with | 0 => (u_75.2.2.2.1 0) | _ => (fun _ => 0)), (fun _ => 0)) [4, 5, 6, 7, 8, 9, 0, 1, 10, 11, 2, 3, 12, 13, 14] rfl rfl rfl (Nat.le_of_ble_eq_true rfl) (Nat.le_of_ble_eq_true rfl) ⟨(show iR 4 0 5 from (iR_c (n := 4) (a := 0) (b := 5) (by decide +kernel) (by decide +kernel))), (show iR (-1) (-1) 11 from (iR_c (n := (-1)) (a := (-1)) (b := 11) (by decide +kernel) (by decide +kernel))), (show 4 = myf f14 f15 f16 f19 f20 f21 f22 f26 f27 f28 f29 f32 f33 (i 13) (i 62) (i 63) (i 64) (i 65) x1 from (by have ek : y_8.toNatClampNeg = 12 * (i 13).toNatClampNeg + x1.toNatClampNeg := (by have c0 := iR_cn f_8_3 (by decide +kernel); have c1 := iR_cn f_3_1 (by decide +kernel); have c2 := iR_cn hx1 (by decide +kernel); omega); exact whf_4 ey_21 (by rw [← ek]; exact ey_22) c_23 ey_39 (by rw [← ek]; exact ey_40) c_41 (by rw [← g_52_1]; exact g_55_1) c_58 (by rw [← g_65_0, ← g_70_0]; exact ey_73) g_75_1 c_78))⟩
      · have c_58 : ¬ r_55 = 0 := c_58
        have f_61_6 : iR r_55 1 1 := iR_neL c_58 g_55_0 (iR_c (n := 0) (a := 0) (b := 0) (by decide +kernel) (by decide +kernel)) (by decide +kernel)
        refine lv_iconst (v := 3) hx hb dX7_whyNot_61 (by decide +kernel) ?_
        exact k_ri B hP hD hS dX7_whyNot_62 ((fun k9 => match k9 with | 0 => (i 66) | _ => 0), (fun _ => 0), (fun _ => (fun _ => 0)), (fun k9 => match k9 with | 0 => g61 | _ => (fun _ => 0)), (fun _ => 0)) [13, 0, 1, 2, 3, 14, 4, 5, 6, 7, 8, 9, 10, 11, 12] rfl rfl rfl (Nat.le_of_ble_eq_true rfl) (Nat.le_of_ble_eq_true rfl) ⟨(show iR 3 0 5 from (iR_c (n := 3) (a := 0) (b := 5) (by decide +kernel) (by decide +kernel))), (show iR (i 66) (-1) 11 from (hI 66)), (show 3 = myf f14 f15 f16 f19 f20 f21 f22 f26 f27 f28 f29 f32 f33 (i 13) (i 62) (i 63) (i 64) (i 65) x1 from (by have ek : y_8.toNatClampNeg = 12 * (i 13).toNatClampNeg + x1.toNatClampNeg := (by have c0 := iR_cn f_8_3 (by decide +kernel); have c1 := iR_cn f_3_1 (by decide +kernel); have c2 := iR_cn hx1 (by decide +kernel); omega); exact whf_3 ey_21 (by rw [← ek]; exact ey_22) c_23 ey_39 (by rw [← ek]; exact ey_40) c_41 (by rw [← g_52_1]; exact g_55_1) c_58))⟩
    · have c_41 : ¬ y_40 = 0 := c_41
      refine lv_iconst (v := 2) hx hb dX7_whyNot_44 (by decide +kernel) ?_
      exact k_ri B hP hD hS dX7_whyNot_45 ((fun k9 => match k9 with | 0 => (i 66) | _ => 0), (fun _ => 0), (fun _ => (fun _ => 0)), (fun k9 => match k9 with | 0 => g61 | _ => (fun _ => 0)), (fun _ => 0)) [0, 1, 2, 3, 4, 5, 6, 7, 8, 9, 10, 11, 12, 13, 14] rfl rfl rfl (Nat.le_of_ble_eq_true rfl) (Nat.le_of_ble_eq_true rfl) ⟨(show iR 2 0 5 from (iR_c (n := 2) (a := 0) (b := 5) (by decide +kernel) (by decide +kernel))), (show iR (i 66) (-1) 11 from (hI 66)), (show 2 = myf f14 f15 f16 f19 f20 f21 f22 f26 f27 f28 f29 f32 f33 (i 13) (i 62) (i 63) (i 64) (i 65) x1 from (by have ek : y_8.toNatClampNeg = 12 * (i 13).toNatClampNeg + x1.toNatClampNeg := (by have c0 := iR_cn f_8_3 (by decide +kernel); have c1 := iR_cn f_3_1 (by decide +kernel); have c2 := iR_cn hx1 (by decide +kernel); omega); exact whf_2 ey_21 (by rw [← ek]; exact ey_22) c_23 ey_39 (by rw [← ek]; exact ey_40) c_41))⟩
  · have c_23 : ¬ y_22 = 0 := c_23
    refine lv_iconst (v := 1) hx hb dX7_whyNot_26 (by decide +kernel) ?_
    exact k_ri B hP hD hS dX7_whyNot_27 ((fun k9 => match k9 with | 0 => (i 66) | _ => 0), (fun _ => 0), (fun _ => (fun _ => 0)), (fun k9 => match k9 with | 0 => g61 | _ => (fun _ => 0)), (fun _ => 0)) [0, 1, 2, 3, 4, 5, 6, 7, 8, 9, 10, 11, 12, 13, 14] rfl rfl rfl (Nat.le_of_ble_eq_true rfl) (Nat.le_of_ble_eq_true rfl) ⟨(show iR 1 0 5 from (iR_c (n := 1) (a := 0) (b := 5) (by decide +kernel) (by decide +kernel))), (show iR (i 66) (-1) 11 from (hI 66)), (show 1 = myf f14 f15 f16 f19 f20 f21 f22 f26 f27 f28 f29 f32 f33 (i 13) (i 62) (i 63) (i 64) (i 65) x1 from (by have ek : y_8.toNatClampNeg = 12 * (i 13).toNatClampNeg + x1.toNatClampNeg := (by have c0 := iR_cn f_8_3 (by decide +kernel); have c1 := iR_cn f_3_1 (by decide +kernel); have c2 := iR_cn hx1 (by decide +kernel); omega); exact whf_1 ey_21 (by rw [← ek]; exact ey_22) c_23))⟩
set_option maxHeartbeats 8000000 in
set_option maxRecDepth 100000 in
theorem s_X7_darkBy_v0 (l : Launch) (dC : Nat → ClassId) (dI : Nat → Nat → Nat) (cI cJ cZ cM : ClassId) (h : Nat) (r : Nat → Nat) (i : Nat → Int32) (j : Nat → Int64) (x1 : Int32) (f14 : Nat → Int32) (f15 : Nat → Int32) (f16 : Nat → Int32) (f19 : Nat → Int32) (f20 : Nat → Int32) (f24 : Nat → Int32) (f25 : Nat → Int32) (f32 : Nat → Int32) (f33 : Nat → Int32) (g61 : Nat → Int64) (hx1 : iR x1 0 11) (hI : mR i) (hf14 : aR f14 0 10) (hf15 : aR f15 0 9999) (hf20 : aR f20 0 9) (hf24 : aR f24 (-1) 1600) (hf25 : aR f25 0 1600) (hsg24 : SEG f24 f25 f32 (i 13).toNatClampNeg 1600) : k_Mi l yX7_darkBy wsX7_darkBy ({ frames := 5, cells := 0, slots := 0, locals := 131 }) (dC, dI) vwCl (tyy cI cJ cZ cM) [(h, .inr (7, oM r i j)), ((r 14), .inl (cI, 2, .inl f14)), ((r 15), .inl (cI, 20, .inl f15)), ((r 16), .inl (cI, 20, .inl f16)), ((r 19), .inl (cI, 24, .inl f19)), ((r 20), .inl (cI, 24, .inl f20)), ((r 24), .inl (cI, 2, .inl f24)), ((r 25), .inl (cI, 2, .inl f25)), ((r 32), .inl (cI, 3200, .inl f32)), ((r 33), .inl (cI, 3200, .inl f33)), ((r 61), .inl (cJ, 500, .inr (.inl g61)))] [.ref h, .int x1] 0 0 (fun (u9 : SU) => [(h, .inr (7, oM r (upd i 66 x1) j)), ((r 14), .inl (cI, 2, .inl f14)), ((r 15), .inl (cI, 20, .inl f15)), ((r 16), .inl (cI, 20, .inl f16)), ((r 19), .inl (cI, 24, .inl f19)), ((r 20), .inl (cI, 24, .inl f20)), ((r 24), .inl (cI, 2, .inl f24)), ((r 25), .inl (cI, 2, .inl f25)), ((r 32), .inl (cI, 3200, .inl f32)), ((r 33), .inl (cI, 3200, .inl f33)), ((r 61), .inl (cJ, 500, .inr (.inl (u9.2.2.2.1 0))))]) (fun (r9 : Int32) (u9 : SU) => (iR r9 0 99)) := by
  refine fun sz => k_enter (cc := cX7_darkBy) (maxL := 2) (ret := some (.int)) (Qc := fun A => va_Qi (fun (r9 : Int32) (u9 : SU) => (iR r9 0 99)) (fun u => k_B (dC, dI) vwCl (tyy cI cJ cZ cM) A ((fun (u9 : SU) => [(h, .inr (7, oM r (upd i 66 x1) j)), ((r 14), .inl (cI, 2, .inl f14)), ((r 15), .inl (cI, 20, .inl f15)), ((r 16), .inl (cI, 20, .inl f16)), ((r 19), .inl (cI, 24, .inl f19)), ((r 20), .inl (cI, 24, .inl f20)), ((r 24), .inl (cI, 2, .inl f24)), ((r 25), .inl (cI, 2, .inl f25)), ((r 32), .inl (cI, 3200, .inl f32)), ((r 33), .inl (cI, 3200, .inl f33)), ((r 61), .inl (cJ, 500, .inr (.inl (u9.2.2.2.1 0))))]) u)) A) sz (by decide +kernel) rfl (Nat.le_of_ble_eq_true rfl) (fun p e s m args below meth c A ls H locs B hP hD hS hl => ?_)
  obtain ⟨hx, hb, hml, hown, hts, hr, hlk, hnm, hK, hA, hN, hC⟩ := id B
  have hown : s.vm.findClass RX7 = some m.cls := hown
  have hl : lv_has ls 2 [(0, .ref h), (1, .int x1)] := hl
  have w_0 : (Cond.fieldLink RX7 213 "WishSeaModel" "askedWish" "I").before args s = true := hts _ (List.mem_of_getElem? (i := 1) rfl)
  have w_1 : (Cond.fieldLink RX7 84 "WishSeaModel" "darkFrom" "[I").before args s = true := hts _ (List.mem_of_getElem? (i := 2) rfl)
  have w_2 : (Cond.fieldLink RX7 51 "WishSeaModel" "bank" "I").before args s = true := hts _ (List.mem_of_getElem? (i := 3) rfl)
  have w_3 : (Cond.fieldLink RX7 87 "WishSeaModel" "darkBehind" "[I").before args s = true := hts _ (List.mem_of_getElem? (i := 4) rfl)
  have hinX7 : ∀ w ∈ u_ws RX7 TX7 92, w ∈ wsX7_darkBy := fun _ h => List.mem_cons_of_mem _ (List.mem_append_right _ h)
  refine lv_aload_n hx hb dX7_darkBy_0 rfl (lv_at hl 0 rfl) ?_
  refine lv_iload_n hx hb dX7_darkBy_1 rfl (lv_at hl 1 rfl) ?_
  refine k_put (D := (dC, dI)) (ci := 7) (v := .int x1) (C := RX7) (T := TX7) (N := 92) (ws' := [(h, .inr (7, oM r (upd i 66 x1) j)), ((r 14), .inl (cI, 2, .inl f14)), ((r 15), .inl (cI, 20, .inl f15)), ((r 16), .inl (cI, 20, .inl f16)), ((r 19), .inl (cI, 24, .inl f19)), ((r 20), .inl (cI, 24, .inl f20)), ((r 24), .inl (cI, 2, .inl f24)), ((r 25), .inl (cI, 2, .inl f25)), ((r 32), .inl (cI, 3200, .inl f32)), ((r 33), .inl (cI, 3200, .inl f33)), ((r 61), .inl (cJ, 500, .inr (.inl g61)))]) hx hb hts hinX7 tyX7 tyX7_ok nmX7 hown hK hP hD hS 0 rfl rfl 66 (by decide) w_0 rfl rfl rfl rfl (Nat.le_of_ble_eq_true rfl) rfl dX7_darkBy_2 (fun H locs hP hD hS => ?_)
  refine lv_aload_n hx hb dX7_darkBy_5 rfl (lv_at hl 0 rfl) ?_
  refine k_get (D := (dC, dI)) (ci := 7) (v := .ref (r 24)) (C := RX7) (T := TX7) (N := 92) hx hb hts hinX7 hown hK hP 0 rfl rfl 24 (by decide) w_1 rfl rfl dX7_darkBy_6 ?_
  refine lv_aload_n hx hb dX7_darkBy_9 rfl (lv_at hl 0 rfl) ?_
  have f_10_1 : iR (i 13) 0 1 := hI 13
  refine k_get (D := (dC, dI)) (ci := 7) (v := .int (i 13)) (C := RX7) (T := TX7) (N := 92) hx hb hts hinX7 hown hK hP 0 rfl rfl 13 (by decide) w_2 rfl rfl dX7_darkBy_10 ?_
  refine va_iald hx hb hK hP 6 0 rfl rfl (iR_vp f_10_1 (by decide +kernel)) dX7_darkBy_13 ?_
  have f_13_2 : iR (f24 (i 13).toNatClampNeg) (-1) 1600 := hf24 _
  refine lv_iconst (v := (-1)) hx hb dX7_darkBy_14 (by decide +kernel) ?_
  refine lv_icmp_ne (tgt := 22) hx hb dX7_darkBy_15 (by decide) (fun c_15 => ?_) (fun c_15 => ?_)
  · have c_15 : ¬ (f24 (i 13).toNatClampNeg) = (-1) := c_15
    have f_22_3 : iR (f24 (i 13).toNatClampNeg) 0 1600 := iR_neL c_15 f_13_2 (iR_c (n := (-1)) (a := (-1)) (b := (-1)) (by decide +kernel) (by decide +kernel)) (by decide +kernel)
    refine lv_aload_n hx hb dX7_darkBy_22 rfl (lv_at hl 0 rfl) ?_
    refine lv_aload_n hx hb dX7_darkBy_23 rfl (lv_at hl 0 rfl) ?_
    refine k_get (D := (dC, dI)) (ci := 7) (v := .ref (r 24)) (C := RX7) (T := TX7) (N := 92) hx hb hts hinX7 hown hK hP 0 rfl rfl 24 (by decide) w_1 rfl rfl dX7_darkBy_24 ?_
    refine lv_aload_n hx hb dX7_darkBy_27 rfl (lv_at hl 0 rfl) ?_
    refine k_get (D := (dC, dI)) (ci := 7) (v := .int (i 13)) (C := RX7) (T := TX7) (N := 92) hx hb hts hinX7 hown hK hP 0 rfl rfl 13 (by decide) w_2 rfl rfl dX7_darkBy_28 ?_
    refine va_iald hx hb hK hP 6 0 rfl rfl (iR_vp f_10_1 (by decide +kernel)) dX7_darkBy_31 ?_
    refine lv_aload_n hx hb dX7_darkBy_32 rfl (lv_at hl 0 rfl) ?_
    refine k_get (D := (dC, dI)) (ci := 7) (v := .ref (r 25)) (C := RX7) (T := TX7) (N := 92) hx hb hts hinX7 hown hK hP 0 rfl rfl 25 (by decide) w_3 rfl rfl dX7_darkBy_33 ?_
    refine lv_aload_n hx hb dX7_darkBy_36 rfl (lv_at hl 0 rfl) ?_
    refine k_get (D := (dC, dI)) (ci := 7) (v := .int (i 13)) (C := RX7) (T := TX7) (N := 92) hx hb hts hinX7 hown hK hP 0 rfl rfl 13 (by decide) w_2 rfl rfl dX7_darkBy_37 ?_
    refine va_iald hx hb hK hP 7 0 rfl rfl (iR_vp f_10_1 (by decide +kernel)) dX7_darkBy_40 ?_
    have f_40_4 : iR (f25 (i 13).toNatClampNeg) 0 1600 := hf25 _
    refine k_cl (wc := [(h, .inr (7, oM r (upd i 66 x1) j)), ((r 14), .inl (cI, 2, .inl f14)), ((r 15), .inl (cI, 20, .inl f15)), ((r 16), .inl (cI, 20, .inl f16)), ((r 19), .inl (cI, 24, .inl f19)), ((r 20), .inl (cI, 24, .inl f20)), ((r 32), .inl (cI, 3200, .inl f32)), ((r 33), .inl (cI, 3200, .inl f33)), ((r 61), .inl (cJ, 500, .inr (.inl g61)))]) (wr := [((r 24), .inl (cI, 2, .inl f24)), ((r 25), .inl (cI, 2, .inl f25))]) (fun hPc hDc hFc => va_runV (As := [.int (f24 (i 13).toNatClampNeg), .int (f25 (i 13).toNatClampNeg)]) (rest := []) ⟨hx, hb, hml, hown, hts⟩ (s_X7_reckons_v0 l dC dI cI cJ cZ cM h r (upd i 66 x1) j (f24 (i 13).toNatClampNeg) (f25 (i 13).toNatClampNeg) f14 f15 f16 f19 f20 f32 f33 g61 f_22_3 f_40_4 (mR_upd 66 hI (show iR _ (loI 66) (hiI 66) from (iR_w hx1 (by decide +kernel)))) hf14 hf15 hf20 (SEG_cd hsg24 c_15) H.size) (cwV 2 hts gX7_darkBy_X7_reckons rfl rfl rfl (by decide +kernel) ⟨(Nat.le_of_ble_eq_true rfl), (Nat.le_of_ble_eq_true rfl)⟩) (k_pV hPc hDc hK hN hC hS hFc hP (q0 := 0) (ci := 7) rfl rfl) rfl rfl hl.1 rfl (lv_room (Nat.le_of_ble_eq_true rfl)) dX7_darkBy_41 ⟨(Nat.le_of_ble_eq_true rfl), (Nat.le_of_ble_eq_true rfl)⟩) hP hD hS hA [0, 1, 2, 3, 4, 5, 8, 9, 10] [6, 7] rfl rfl rfl rfl (by decide) (fun _ => rfl) 0 0 rfl rfl (fun r_41 u_41 H locs hw hP hD hS => ?_)
    have g_41_0 := hw
    have hP : va_P (dC, dI) vwCl [((r 24), .inl (cI, 2, .inl f24)), ((r 25), .inl (cI, 2, .inl f25)), (h, .inr (7, oM r (upd i 66 x1) j)), ((r 14), .inl (cI, 2, .inl f14)), ((r 15), .inl (cI, 20, .inl f15)), ((r 16), .inl (cI, 20, .inl f16)), ((r 19), .inl (cI, 24, .inl f19)), ((r 20), .inl (cI, 24, .inl f20)), ((r 32), .inl (cI, 3200, .inl f32)), ((r 33), .inl (cI, 3200, .inl f33)), ((r 61), .inl (cJ, 500, .inr (.inl (u_41.2.2.2.1 0))))] H := hP
    have hD : va_D A [((r 24), .inl (cI, 2, .inl f24)), ((r 25), .inl (cI, 2, .inl f25)), (h, .inr (7, oM r (upd i 66 x1) j)), ((r 14), .inl (cI, 2, .inl f14)), ((r 15), .inl (cI, 20, .inl f15)), ((r 16), .inl (cI, 20, .inl f16)), ((r 19), .inl (cI, 24, .inl f19)), ((r 20), .inl (cI, 24, .inl f20)), ((r 32), .inl (cI, 3200, .inl f32)), ((r 33), .inl (cI, 3200, .inl f33)), ((r 61), .inl (cJ, 500, .inr (.inl (u_41.2.2.2.1 0))))] := hD
    have g_41_0 : r_41 = rkv f32 f33 (envf f14 f15 f16 f19 f20 (i 13) (i 62) (i 63) (i 64) (i 65) x1) (i 13).toNatClampNeg (f24 (i 13).toNatClampNeg) (f25 (i 13).toNatClampNeg) := g_41_0
    refine lv_iconst (v := 0) hx hb dX7_darkBy_44 (by decide +kernel) ?_
    refine lv_bipush (v := 99) hx hb dX7_darkBy_45 (by decide +kernel) ?_
    refine k_ci (wc := []) (wr := [((r 24), .inl (cI, 2, .inl f24)), ((r 25), .inl (cI, 2, .inl f25)), (h, .inr (7, oM r (upd i 66 x1) j)), ((r 14), .inl (cI, 2, .inl f14)), ((r 15), .inl (cI, 20, .inl f15)), ((r 16), .inl (cI, 20, .inl f16)), ((r 19), .inl (cI, 24, .inl f19)), ((r 20), .inl (cI, 24, .inl f20)), ((r 32), .inl (cI, 3200, .inl f32)), ((r 33), .inl (cI, 3200, .inl f33)), ((r 61), .inl (cJ, 500, .inr (.inl (u_41.2.2.2.1 0))))]) (fun hPc hDc hFc => va_runS (As := [.long r_41, .int 0, .int 99]) (rest := []) ⟨hx, hb, hml, hown, hts⟩ (s_X7_between_v0 l dC dI cI cJ cZ cM r_41 H.size) (va_cwS 3 hts gX7_darkBy_X7_between rfl rfl rfl (by decide +kernel) ⟨(Nat.le_of_ble_eq_true rfl), (Nat.le_of_ble_eq_true rfl)⟩) (k_pS hPc hDc hK hN hC hS hFc) rfl rfl hl.1 rfl (lv_room (Nat.le_of_ble_eq_true rfl)) dX7_darkBy_47 ⟨(Nat.le_of_ble_eq_true rfl), (Nat.le_of_ble_eq_true rfl)⟩) hP hD hS hA [] [0, 1, 2, 3, 4, 5, 6, 7, 8, 9, 10] rfl rfl rfl rfl (by decide) (fun _ => rfl) 0 0 rfl rfl (fun r_47 u_47 H locs hw hP hD hS => ?_)
    obtain ⟨g_47_0, g_47_1⟩ := hw
    have hP : va_P (dC, dI) vwCl [((r 24), .inl (cI, 2, .inl f24)), ((r 25), .inl (cI, 2, .inl f25)), (h, .inr (7, oM r (upd i 66 x1) j)), ((r 14), .inl (cI, 2, .inl f14)), ((r 15), .inl (cI, 20, .inl f15)), ((r 16), .inl (cI, 20, .inl f16)), ((r 19), .inl (cI, 24, .inl f19)), ((r 20), .inl (cI, 24, .inl f20)), ((r 32), .inl (cI, 3200, .inl f32)), ((r 33), .inl (cI, 3200, .inl f33)), ((r 61), .inl (cJ, 500, .inr (.inl (u_41.2.2.2.1 0))))] H := hP
    have hD : va_D A [((r 24), .inl (cI, 2, .inl f24)), ((r 25), .inl (cI, 2, .inl f25)), (h, .inr (7, oM r (upd i 66 x1) j)), ((r 14), .inl (cI, 2, .inl f14)), ((r 15), .inl (cI, 20, .inl f15)), ((r 16), .inl (cI, 20, .inl f16)), ((r 19), .inl (cI, 24, .inl f19)), ((r 20), .inl (cI, 24, .inl f20)), ((r 32), .inl (cI, 3200, .inl f32)), ((r 33), .inl (cI, 3200, .inl f33)), ((r 61), .inl (cJ, 500, .inr (.inl (u_41.2.2.2.1 0))))] := hD
    have g_47_1 : r_47 = btw r_41 0 99 := g_47_1
    exact k_ri B hP hD hS dX7_darkBy_50 ((fun _ => 0), (fun _ => 0), (fun _ => (fun _ => 0)), (fun k9 => match k9 with | 0 => (u_41.2.2.2.1 0) | _ => (fun _ => 0)), (fun _ => 0)) [2, 3, 4, 5, 6, 7, 0, 1, 8, 9, 10] rfl rfl rfl (Nat.le_of_ble_eq_true rfl) (Nat.le_of_ble_eq_true rfl) (show iR r_47 0 99 from g_47_0)
  · have c_15 : (f24 (i 13).toNatClampNeg) = (-1) := c_15
    have f_18_3 : iR (f24 (i 13).toNatClampNeg) (-1) (-1) := iR_eqL c_15 f_13_2 (iR_c (n := (-1)) (a := (-1)) (b := (-1)) (by decide +kernel) (by decide +kernel)) (by decide +kernel)
    refine lv_iconst (v := 0) hx hb dX7_darkBy_18 (by decide +kernel) ?_
    refine lv_goto (tgt := 50) hx hb dX7_darkBy_19 (by decide) ?_
    exact k_ri B hP hD hS dX7_darkBy_50 ((fun _ => 0), (fun _ => 0), (fun _ => (fun _ => 0)), (fun k9 => match k9 with | 0 => g61 | _ => (fun _ => 0)), (fun _ => 0)) [0, 1, 2, 3, 4, 5, 6, 7, 8, 9, 10] rfl rfl rfl (Nat.le_of_ble_eq_true rfl) (Nat.le_of_ble_eq_true rfl) (show iR 0 0 99 from (iR_c (n := 0) (a := 0) (b := 99) (by decide +kernel) (by decide +kernel)))
set_option maxHeartbeats 8000000 in
set_option maxRecDepth 100000 in
theorem s_X7_wish_v0 (l : Launch) (dC : Nat → ClassId) (dI : Nat → Nat → Nat) (cI cJ cZ cM : ClassId) (h : Nat) (r : Nat → Nat) (i : Nat → Int32) (j : Nat → Int64) (x1 : Int32) (x2 : Int32) (f14 : Nat → Int32) (f15 : Nat → Int32) (f16 : Nat → Int32) (f18 : Nat → Int32) (f19 : Nat → Int32) (f20 : Nat → Int32) (f21 : Nat → Int32) (f22 : Nat → Int32) (f24 : Nat → Int32) (f25 : Nat → Int32) (f26 : Nat → Int32) (f27 : Nat → Int32) (f28 : Nat → Int32) (f29 : Nat → Int32) (f32 : Nat → Int32) (f33 : Nat → Int32) (f49 : Nat → Int32) (f50 : Nat → Int32) (f51 : Nat → Int32) (f52 : Nat → Int32) (f53 : Nat → Int32) (f55 : Nat → Int32) (g61 : Nat → Int64) (hI : mR i) (hf14 : aR f14 0 10) (hf15 : aR f15 0 9999) (hf18 : aR f18 0 12) (hf20 : aR f20 0 9) (hf24 : aR f24 (-1) 1600) (hf25 : aR f25 0 1600) (hf26 : aR f26 (-1) 1600) (hf27 : aR f27 0 1600) (hf28 : aR f28 (-1) 1600) (hf29 : aR f29 0 1600) (hf49 : aR f49 0 1023) (hf50 : aR f50 0 999) (hf53 : aR f53 0 50) (hsg24 : SEG f24 f25 f32 (i 13).toNatClampNeg 1600) (hsg26 : SEG f26 f27 f32 (i 13).toNatClampNeg 1600) (hsg28 : SEG f28 f29 f32 (i 13).toNatClampNeg 1600) : k_Mi l yX7_wish wsX7_wish ({ frames := 7, cells := 0, slots := 0, locals := 173 }) (dC, dI) vwCl (tyy cI cJ cZ cM) [(h, .inr (7, oM r i j)), ((r 14), .inl (cI, 2, .inl f14)), ((r 15), .inl (cI, 20, .inl f15)), ((r 16), .inl (cI, 20, .inl f16)), ((r 18), .inl (cI, 2, .inl f18)), ((r 19), .inl (cI, 24, .inl f19)), ((r 20), .inl (cI, 24, .inl f20)), ((r 21), .inl (cI, 24, .inl f21)), ((r 22), .inl (cI, 24, .inl f22)), ((r 24), .inl (cI, 2, .inl f24)), ((r 25), .inl (cI, 2, .inl f25)), ((r 26), .inl (cI, 2, .inl f26)), ((r 27), .inl (cI, 2, .inl f27)), ((r 28), .inl (cI, 2, .inl f28)), ((r 29), .inl (cI, 2, .inl f29)), ((r 32), .inl (cI, 3200, .inl f32)), ((r 33), .inl (cI, 3200, .inl f33)), ((r 49), .inl (cI, 22, .inl f49)), ((r 50), .inl (cI, 22, .inl f50)), ((r 51), .inl (cI, 22, .inl f51)), ((r 52), .inl (cI, 22, .inl f52)), ((r 53), .inl (cI, 22, .inl f53)), ((r 55), .inl (cI, 1100, .inl f55)), ((r 61), .inl (cJ, 500, .inr (.inl g61)))] [.ref h, .int x1, .int x2] 0 0 (fun (u9 : SU) => [(h, .inr (7, oM r (upd (upd (upd (upd (upd i 62 (u9.1 0)) 63 (u9.1 1)) 64 (u9.1 2)) 65 (u9.1 3)) 66 (u9.1 4)) j)), ((r 14), .inl (cI, 2, .inl f14)), ((r 15), .inl (cI, 20, .inl f15)), ((r 16), .inl (cI, 20, .inl f16)), ((r 18), .inl (cI, 2, .inl f18)), ((r 19), .inl (cI, 24, .inl f19)), ((r 20), .inl (cI, 24, .inl f20)), ((r 21), .inl (cI, 24, .inl f21)), ((r 22), .inl (cI, 24, .inl f22)), ((r 24), .inl (cI, 2, .inl f24)), ((r 25), .inl (cI, 2, .inl f25)), ((r 26), .inl (cI, 2, .inl f26)), ((r 27), .inl (cI, 2, .inl f27)), ((r 28), .inl (cI, 2, .inl f28)), ((r 29), .inl (cI, 2, .inl f29)), ((r 32), .inl (cI, 3200, .inl f32)), ((r 33), .inl (cI, 3200, .inl f33)), ((r 49), .inl (cI, 22, .inl f49)), ((r 50), .inl (cI, 22, .inl f50)), ((r 51), .inl (cI, 22, .inl f51)), ((r 52), .inl (cI, 22, .inl f52)), ((r 53), .inl (cI, 22, .inl f53)), ((r 55), .inl (cI, 1100, .inl f55)), ((r 61), .inl (cJ, 500, .inr (.inl (u9.2.2.2.1 0))))]) (fun (r9 : Int32) (u9 : SU) => (iR (u9.1 4) (-1) 11)) := by
  refine fun sz => k_enter (cc := cX7_wish) (maxL := 5) (ret := some (.int)) (Qc := fun A => va_Qi (fun (r9 : Int32) (u9 : SU) => (iR (u9.1 4) (-1) 11)) (fun u => k_B (dC, dI) vwCl (tyy cI cJ cZ cM) A ((fun (u9 : SU) => [(h, .inr (7, oM r (upd (upd (upd (upd (upd i 62 (u9.1 0)) 63 (u9.1 1)) 64 (u9.1 2)) 65 (u9.1 3)) 66 (u9.1 4)) j)), ((r 14), .inl (cI, 2, .inl f14)), ((r 15), .inl (cI, 20, .inl f15)), ((r 16), .inl (cI, 20, .inl f16)), ((r 18), .inl (cI, 2, .inl f18)), ((r 19), .inl (cI, 24, .inl f19)), ((r 20), .inl (cI, 24, .inl f20)), ((r 21), .inl (cI, 24, .inl f21)), ((r 22), .inl (cI, 24, .inl f22)), ((r 24), .inl (cI, 2, .inl f24)), ((r 25), .inl (cI, 2, .inl f25)), ((r 26), .inl (cI, 2, .inl f26)), ((r 27), .inl (cI, 2, .inl f27)), ((r 28), .inl (cI, 2, .inl f28)), ((r 29), .inl (cI, 2, .inl f29)), ((r 32), .inl (cI, 3200, .inl f32)), ((r 33), .inl (cI, 3200, .inl f33)), ((r 49), .inl (cI, 22, .inl f49)), ((r 50), .inl (cI, 22, .inl f50)), ((r 51), .inl (cI, 22, .inl f51)), ((r 52), .inl (cI, 22, .inl f52)), ((r 53), .inl (cI, 22, .inl f53)), ((r 55), .inl (cI, 1100, .inl f55)), ((r 61), .inl (cJ, 500, .inr (.inl (u9.2.2.2.1 0))))]) u)) A) sz (by decide +kernel) rfl (Nat.le_of_ble_eq_true rfl) (fun p e s m args below meth c A ls H locs B hP hD hS hl => ?_)
  obtain ⟨hx, hb, hml, hown, hts, hr, hlk, hnm, hK, hA, hN, hC⟩ := id B
  have hown : s.vm.findClass RX7 = some m.cls := hown
  have hl : lv_has ls 5 [(0, .ref h), (1, .int x1), (2, .int x2)] := hl
  have w_0 : (Cond.fieldLink RX7 75 "WishSeaModel" "wishNeeds" "[I").before args s = true := hts _ (List.mem_of_getElem? (i := 1) rfl)
  have w_1 : (Cond.fieldLink RX7 51 "WishSeaModel" "bank" "I").before args s = true := hts _ (List.mem_of_getElem? (i := 2) rfl)
  have w_2 : (Cond.fieldLink RX7 78 "WishSeaModel" "wishUses" "[I").before args s = true := hts _ (List.mem_of_getElem? (i := 3) rfl)
  have w_3 : (Cond.fieldLink RX7 174 "WishSeaModel" "keptMany" "[I").before args s = true := hts _ (List.mem_of_getElem? (i := 4) rfl)
  have w_4 : (Cond.fieldLink RX7 180 "WishSeaModel" "keptWish" "[I").before args s = true := hts _ (List.mem_of_getElem? (i := 5) rfl)
  have hinX7 : ∀ w ∈ u_ws RX7 TX7 92, w ∈ wsX7_wish := fun _ h => List.mem_cons_of_mem _ (List.mem_append_right _ h)
  refine lv_aload_n hx hb dX7_wish_0 rfl (lv_at hl 0 rfl) ?_
  refine lv_iload_n hx hb dX7_wish_1 rfl (lv_at hl 1 rfl) ?_
  refine k_ci (wc := [(h, .inr (7, oM r i j)), ((r 18), .inl (cI, 2, .inl f18))]) (wr := [((r 14), .inl (cI, 2, .inl f14)), ((r 15), .inl (cI, 20, .inl f15)), ((r 16), .inl (cI, 20, .inl f16)), ((r 19), .inl (cI, 24, .inl f19)), ((r 20), .inl (cI, 24, .inl f20)), ((r 21), .inl (cI, 24, .inl f21)), ((r 22), .inl (cI, 24, .inl f22)), ((r 24), .inl (cI, 2, .inl f24)), ((r 25), .inl (cI, 2, .inl f25)), ((r 26), .inl (cI, 2, .inl f26)), ((r 27), .inl (cI, 2, .inl f27)), ((r 28), .inl (cI, 2, .inl f28)), ((r 29), .inl (cI, 2, .inl f29)), ((r 32), .inl (cI, 3200, .inl f32)), ((r 33), .inl (cI, 3200, .inl f33)), ((r 49), .inl (cI, 22, .inl f49)), ((r 50), .inl (cI, 22, .inl f50)), ((r 51), .inl (cI, 22, .inl f51)), ((r 52), .inl (cI, 22, .inl f52)), ((r 53), .inl (cI, 22, .inl f53)), ((r 55), .inl (cI, 1100, .inl f55)), ((r 61), .inl (cJ, 500, .inr (.inl g61)))]) (fun hPc hDc hFc => va_runV (As := [.int x1]) (rest := []) ⟨hx, hb, hml, hown, hts⟩ (s_X7_isWish_v0 l dC dI cI cJ cZ cM h r i j x1 f18 hI hf18 H.size) (cwV 1 hts gX7_wish_X7_isWish rfl rfl rfl (by decide +kernel) ⟨(Nat.le_of_ble_eq_true rfl), (Nat.le_of_ble_eq_true rfl)⟩) (k_pV hPc hDc hK hN hC hS hFc hP (q0 := 0) (ci := 7) rfl rfl) rfl rfl hl.1 rfl (lv_room (Nat.le_of_ble_eq_true rfl)) dX7_wish_2 ⟨(Nat.le_of_ble_eq_true rfl), (Nat.le_of_ble_eq_true rfl)⟩) hP hD hS hA [0, 4] [1, 2, 3, 5, 6, 7, 8, 9, 10, 11, 12, 13, 14, 15, 16, 17, 18, 19, 20, 21, 22, 23] rfl rfl rfl rfl (by decide) (fun _ => rfl) 0 0 rfl rfl (fun r_2 u_2 H locs hw hP hD hS => ?_)
  obtain ⟨g_2_0, g_2_1⟩ := hw
  have hP : va_P (dC, dI) vwCl [((r 14), .inl (cI, 2, .inl f14)), ((r 15), .inl (cI, 20, .inl f15)), ((r 16), .inl (cI, 20, .inl f16)), ((r 19), .inl (cI, 24, .inl f19)), ((r 20), .inl (cI, 24, .inl f20)), ((r 21), .inl (cI, 24, .inl f21)), ((r 22), .inl (cI, 24, .inl f22)), ((r 24), .inl (cI, 2, .inl f24)), ((r 25), .inl (cI, 2, .inl f25)), ((r 26), .inl (cI, 2, .inl f26)), ((r 27), .inl (cI, 2, .inl f27)), ((r 28), .inl (cI, 2, .inl f28)), ((r 29), .inl (cI, 2, .inl f29)), ((r 32), .inl (cI, 3200, .inl f32)), ((r 33), .inl (cI, 3200, .inl f33)), ((r 49), .inl (cI, 22, .inl f49)), ((r 50), .inl (cI, 22, .inl f50)), ((r 51), .inl (cI, 22, .inl f51)), ((r 52), .inl (cI, 22, .inl f52)), ((r 53), .inl (cI, 22, .inl f53)), ((r 55), .inl (cI, 1100, .inl f55)), ((r 61), .inl (cJ, 500, .inr (.inl g61))), (h, .inr (7, oM r i j)), ((r 18), .inl (cI, 2, .inl f18))] H := hP
  have hD : va_D A [((r 14), .inl (cI, 2, .inl f14)), ((r 15), .inl (cI, 20, .inl f15)), ((r 16), .inl (cI, 20, .inl f16)), ((r 19), .inl (cI, 24, .inl f19)), ((r 20), .inl (cI, 24, .inl f20)), ((r 21), .inl (cI, 24, .inl f21)), ((r 22), .inl (cI, 24, .inl f22)), ((r 24), .inl (cI, 2, .inl f24)), ((r 25), .inl (cI, 2, .inl f25)), ((r 26), .inl (cI, 2, .inl f26)), ((r 27), .inl (cI, 2, .inl f27)), ((r 28), .inl (cI, 2, .inl f28)), ((r 29), .inl (cI, 2, .inl f29)), ((r 32), .inl (cI, 3200, .inl f32)), ((r 33), .inl (cI, 3200, .inl f33)), ((r 49), .inl (cI, 22, .inl f49)), ((r 50), .inl (cI, 22, .inl f50)), ((r 51), .inl (cI, 22, .inl f51)), ((r 52), .inl (cI, 22, .inl f52)), ((r 53), .inl (cI, 22, .inl f53)), ((r 55), .inl (cI, 1100, .inl f55)), ((r 61), .inl (cJ, 500, .inr (.inl g61))), (h, .inr (7, oM r i j)), ((r 18), .inl (cI, 2, .inl f18))] := hD
  have g_2_1 : (r_2 = 0) ∨ ((0 ≤ x1) ∧ (x1 < (f18 (i 13).toNatClampNeg))) := g_2_1
  refine lv_if_ne (tgt := 10) hx hb dX7_wish_5 (by decide) (fun c_5 => ?_) (fun c_5 => ?_)
  · have c_5 : ¬ r_2 = 0 := c_5
    have f_10_1 : iR r_2 1 1 := iR_neL c_5 g_2_0 (iR_c (n := 0) (a := 0) (b := 0) (by decide +kernel) (by decide +kernel)) (by decide +kernel)
    obtain ⟨d_5_1_0, d_5_1_1⟩ := g_2_1.resolve_left c_5
    have f_10_2 : iR x1 0 2147483647 := iR_leR d_5_1_0 (iR_c (n := 0) (a := 0) (b := 0) (by decide +kernel) (by decide +kernel)) (iR_top _) (by decide +kernel)
    have f_10_3 : iR x1 0 11 := iR_ltL d_5_1_1 f_10_2 (show iR (f18 (i 13).toNatClampNeg) 0 12 from hf18 _) (by decide +kernel)
    have f_10_4 : iR (f18 (i 13).toNatClampNeg) 1 12 := iR_ltR d_5_1_1 f_10_2 (show iR (f18 (i 13).toNatClampNeg) 0 12 from hf18 _) (by decide +kernel)
    refine lv_aload_n hx hb dX7_wish_10 rfl (lv_at hl 0 rfl) ?_
    refine lv_iconst (v := 0) hx hb dX7_wish_11 (by decide +kernel) ?_
    refine k_cv (wc := [(h, .inr (7, oM r i j)), ((r 49), .inl (cI, 22, .inl f49)), ((r 50), .inl (cI, 22, .inl f50)), ((r 51), .inl (cI, 22, .inl f51)), ((r 52), .inl (cI, 22, .inl f52))]) (wr := [((r 14), .inl (cI, 2, .inl f14)), ((r 15), .inl (cI, 20, .inl f15)), ((r 16), .inl (cI, 20, .inl f16)), ((r 19), .inl (cI, 24, .inl f19)), ((r 20), .inl (cI, 24, .inl f20)), ((r 21), .inl (cI, 24, .inl f21)), ((r 22), .inl (cI, 24, .inl f22)), ((r 24), .inl (cI, 2, .inl f24)), ((r 25), .inl (cI, 2, .inl f25)), ((r 26), .inl (cI, 2, .inl f26)), ((r 27), .inl (cI, 2, .inl f27)), ((r 28), .inl (cI, 2, .inl f28)), ((r 29), .inl (cI, 2, .inl f29)), ((r 32), .inl (cI, 3200, .inl f32)), ((r 33), .inl (cI, 3200, .inl f33)), ((r 53), .inl (cI, 22, .inl f53)), ((r 55), .inl (cI, 1100, .inl f55)), ((r 61), .inl (cJ, 500, .inr (.inl g61))), ((r 18), .inl (cI, 2, .inl f18))]) (fun hPc hDc hFc => va_runV (As := [.int 0]) (rest := []) ⟨hx, hb, hml, hown, hts⟩ (s_X7_asksLayer_v0 l dC dI cI cJ cZ cM h r i j 0 f49 f50 f51 f52 (iR_c (n := 0) (a := 0) (b := 21) (by decide +kernel) (by decide +kernel)) hI hf49 hf50 H.size) (cwV 1 hts gX7_wish_X7_asksLayer rfl rfl rfl (by decide +kernel) ⟨(Nat.le_of_ble_eq_true rfl), (Nat.le_of_ble_eq_true rfl)⟩) (k_pV hPc hDc hK hN hC hS hFc hP (q0 := 22) (ci := 7) rfl rfl) rfl rfl hl.1 rfl (lv_room (Nat.le_of_ble_eq_true rfl)) dX7_wish_12 ⟨(Nat.le_of_ble_eq_true rfl), (Nat.le_of_ble_eq_true rfl)⟩) hP hD hS hA [22, 15, 16, 17, 18] [0, 1, 2, 3, 4, 5, 6, 7, 8, 9, 10, 11, 12, 13, 14, 19, 20, 21, 23] rfl rfl rfl rfl (by decide) (fun _ => rfl) 0 0 rfl rfl (fun u_12 H locs hw hP hD hS => ?_)
    have hP : va_P (dC, dI) vwCl [((r 14), .inl (cI, 2, .inl f14)), ((r 15), .inl (cI, 20, .inl f15)), ((r 16), .inl (cI, 20, .inl f16)), ((r 19), .inl (cI, 24, .inl f19)), ((r 20), .inl (cI, 24, .inl f20)), ((r 21), .inl (cI, 24, .inl f21)), ((r 22), .inl (cI, 24, .inl f22)), ((r 24), .inl (cI, 2, .inl f24)), ((r 25), .inl (cI, 2, .inl f25)), ((r 26), .inl (cI, 2, .inl f26)), ((r 27), .inl (cI, 2, .inl f27)), ((r 28), .inl (cI, 2, .inl f28)), ((r 29), .inl (cI, 2, .inl f29)), ((r 32), .inl (cI, 3200, .inl f32)), ((r 33), .inl (cI, 3200, .inl f33)), ((r 53), .inl (cI, 22, .inl f53)), ((r 55), .inl (cI, 1100, .inl f55)), ((r 61), .inl (cJ, 500, .inr (.inl g61))), ((r 18), .inl (cI, 2, .inl f18)), (h, .inr (7, oM r (upd (upd (upd (upd i 62 (f49 0)) 63 (f50 0)) 64 (f51 0)) 65 (f52 0)) j)), ((r 49), .inl (cI, 22, .inl f49)), ((r 50), .inl (cI, 22, .inl f50)), ((r 51), .inl (cI, 22, .inl f51)), ((r 52), .inl (cI, 22, .inl f52))] H := hP
    have hD : va_D A [((r 14), .inl (cI, 2, .inl f14)), ((r 15), .inl (cI, 20, .inl f15)), ((r 16), .inl (cI, 20, .inl f16)), ((r 19), .inl (cI, 24, .inl f19)), ((r 20), .inl (cI, 24, .inl f20)), ((r 21), .inl (cI, 24, .inl f21)), ((r 22), .inl (cI, 24, .inl f22)), ((r 24), .inl (cI, 2, .inl f24)), ((r 25), .inl (cI, 2, .inl f25)), ((r 26), .inl (cI, 2, .inl f26)), ((r 27), .inl (cI, 2, .inl f27)), ((r 28), .inl (cI, 2, .inl f28)), ((r 29), .inl (cI, 2, .inl f29)), ((r 32), .inl (cI, 3200, .inl f32)), ((r 33), .inl (cI, 3200, .inl f33)), ((r 53), .inl (cI, 22, .inl f53)), ((r 55), .inl (cI, 1100, .inl f55)), ((r 61), .inl (cJ, 500, .inr (.inl g61))), ((r 18), .inl (cI, 2, .inl f18)), (h, .inr (7, oM r (upd (upd (upd (upd i 62 (f49 0)) 63 (f50 0)) 64 (f51 0)) 65 (f52 0)) j)), ((r 49), .inl (cI, 22, .inl f49)), ((r 50), .inl (cI, 22, .inl f50)), ((r 51), .inl (cI, 22, .inl f51)), ((r 52), .inl (cI, 22, .inl f52))] := hD
    refine lv_iconst (v := 0) hx hb dX7_wish_15 (by decide +kernel) ?_
    refine lv_istore_n (lv' := [(3, .int 0), (0, .ref h), (1, .int x1), (2, .int x2)]) hx hb dX7_wish_16 rfl hl (by decide) rfl (fun ls hl => ?_)
    refine lv_iload_n hx hb dX7_wish_17 rfl (lv_at hl 3 rfl) ?_
    rcases (show x2.toInt = 0 ∨ x2.toInt = 1 ∨ x2.toInt = 2 ∨ x2.toInt = 3 ∨ x2.toInt = 4 ∨ x2.toInt = 5 ∨ x2.toInt = 6 ∨ x2.toInt = 7 ∨ (¬ x2.toInt = 0 ∧ ¬ x2.toInt = 1 ∧ ¬ x2.toInt = 2 ∧ ¬ x2.toInt = 3 ∧ ¬ x2.toInt = 4 ∧ ¬ x2.toInt = 5 ∧ ¬ x2.toInt = 6 ∧ ¬ x2.toInt = 7) by omega) with c_18 | c_18 | c_18 | c_18 | c_18 | c_18 | c_18 | c_18 | c_18
    · have f_64_5 : iR x2 0 0 := iR_c c_18 (by decide +kernel)
      refine lv_tableIn (off := 46) (tgt := 64) hx hb dX7_wish_18 (by rw [c_18]; decide) (by rw [c_18]; decide) (by rw [c_18]; decide +kernel) (by decide +kernel) ?_
      refine lv_aload_n hx hb dX7_wish_64 rfl (lv_at hl 1 rfl) ?_
      refine lv_iload_n hx hb dX7_wish_65 rfl (lv_at hl 2 rfl) ?_
      refine k_ci (wc := [(h, .inr (7, oM r (upd (upd (upd (upd i 62 (f49 0)) 63 (f50 0)) 64 (f51 0)) 65 (f52 0)) j)), ((r 20), .inl (cI, 24, .inl f20))]) (wr := [((r 14), .inl (cI, 2, .inl f14)), ((r 15), .inl (cI, 20, .inl f15)), ((r 16), .inl (cI, 20, .inl f16)), ((r 19), .inl (cI, 24, .inl f19)), ((r 21), .inl (cI, 24, .inl f21)), ((r 22), .inl (cI, 24, .inl f22)), ((r 24), .inl (cI, 2, .inl f24)), ((r 25), .inl (cI, 2, .inl f25)), ((r 26), .inl (cI, 2, .inl f26)), ((r 27), .inl (cI, 2, .inl f27)), ((r 28), .inl (cI, 2, .inl f28)), ((r 29), .inl (cI, 2, .inl f29)), ((r 32), .inl (cI, 3200, .inl f32)), ((r 33), .inl (cI, 3200, .inl f33)), ((r 53), .inl (cI, 22, .inl f53)), ((r 55), .inl (cI, 1100, .inl f55)), ((r 61), .inl (cJ, 500, .inr (.inl g61))), ((r 18), .inl (cI, 2, .inl f18)), ((r 49), .inl (cI, 22, .inl f49)), ((r 50), .inl (cI, 22, .inl f50)), ((r 51), .inl (cI, 22, .inl f51)), ((r 52), .inl (cI, 22, .inl f52))]) (fun hPc hDc hFc => va_runV (As := [.int x1]) (rest := []) ⟨hx, hb, hml, hown, hts⟩ (s_X7_givesOf_v0 l dC dI cI cJ cZ cM h r (upd (upd (upd (upd i 62 (f49 0)) 63 (f50 0)) 64 (f51 0)) 65 (f52 0)) j x1 f20 f_10_3 (mR_upd 65 (mR_upd 64 (mR_upd 63 (mR_upd 62 hI (show iR _ (loI 62) (hiI 62) from (iR_top _))) (show iR _ (loI 63) (hiI 63) from (iR_top _))) (show iR _ (loI 64) (hiI 64) from (iR_top _))) (show iR _ (loI 65) (hiI 65) from (iR_top _))) hf20 H.size) (cwV 1 hts gX7_wish_X7_givesOf rfl rfl rfl (by decide +kernel) ⟨(Nat.le_of_ble_eq_true rfl), (Nat.le_of_ble_eq_true rfl)⟩) (k_pV hPc hDc hK hN hC hS hFc hP (q0 := 19) (ci := 7) rfl rfl) rfl rfl hl.1 rfl (lv_room (Nat.le_of_ble_eq_true rfl)) dX7_wish_66 ⟨(Nat.le_of_ble_eq_true rfl), (Nat.le_of_ble_eq_true rfl)⟩) hP hD hS hA [19, 4] [0, 1, 2, 3, 5, 6, 7, 8, 9, 10, 11, 12, 13, 14, 15, 16, 17, 18, 20, 21, 22, 23] rfl rfl rfl rfl (by decide) (fun _ => rfl) 0 0 rfl rfl (fun r_66 u_66 H locs hw hP hD hS => ?_)
      obtain ⟨g_66_0, g_66_1⟩ := hw
      have hP : va_P (dC, dI) vwCl [((r 14), .inl (cI, 2, .inl f14)), ((r 15), .inl (cI, 20, .inl f15)), ((r 16), .inl (cI, 20, .inl f16)), ((r 19), .inl (cI, 24, .inl f19)), ((r 21), .inl (cI, 24, .inl f21)), ((r 22), .inl (cI, 24, .inl f22)), ((r 24), .inl (cI, 2, .inl f24)), ((r 25), .inl (cI, 2, .inl f25)), ((r 26), .inl (cI, 2, .inl f26)), ((r 27), .inl (cI, 2, .inl f27)), ((r 28), .inl (cI, 2, .inl f28)), ((r 29), .inl (cI, 2, .inl f29)), ((r 32), .inl (cI, 3200, .inl f32)), ((r 33), .inl (cI, 3200, .inl f33)), ((r 53), .inl (cI, 22, .inl f53)), ((r 55), .inl (cI, 1100, .inl f55)), ((r 61), .inl (cJ, 500, .inr (.inl g61))), ((r 18), .inl (cI, 2, .inl f18)), ((r 49), .inl (cI, 22, .inl f49)), ((r 50), .inl (cI, 22, .inl f50)), ((r 51), .inl (cI, 22, .inl f51)), ((r 52), .inl (cI, 22, .inl f52)), (h, .inr (7, oM r (upd (upd (upd (upd i 62 (f49 0)) 63 (f50 0)) 64 (f51 0)) 65 (f52 0)) j)), ((r 20), .inl (cI, 24, .inl f20))] H := hP
      have hD : va_D A [((r 14), .inl (cI, 2, .inl f14)), ((r 15), .inl (cI, 20, .inl f15)), ((r 16), .inl (cI, 20, .inl f16)), ((r 19), .inl (cI, 24, .inl f19)), ((r 21), .inl (cI, 24, .inl f21)), ((r 22), .inl (cI, 24, .inl f22)), ((r 24), .inl (cI, 2, .inl f24)), ((r 25), .inl (cI, 2, .inl f25)), ((r 26), .inl (cI, 2, .inl f26)), ((r 27), .inl (cI, 2, .inl f27)), ((r 28), .inl (cI, 2, .inl f28)), ((r 29), .inl (cI, 2, .inl f29)), ((r 32), .inl (cI, 3200, .inl f32)), ((r 33), .inl (cI, 3200, .inl f33)), ((r 53), .inl (cI, 22, .inl f53)), ((r 55), .inl (cI, 1100, .inl f55)), ((r 61), .inl (cJ, 500, .inr (.inl g61))), ((r 18), .inl (cI, 2, .inl f18)), ((r 49), .inl (cI, 22, .inl f49)), ((r 50), .inl (cI, 22, .inl f50)), ((r 51), .inl (cI, 22, .inl f51)), ((r 52), .inl (cI, 22, .inl f52)), (h, .inr (7, oM r (upd (upd (upd (upd i 62 (f49 0)) 63 (f50 0)) 64 (f51 0)) 65 (f52 0)) j)), ((r 20), .inl (cI, 24, .inl f20))] := hD
      have g_66_1 : r_66 = f20 (12 * (i 13).toNatClampNeg + x1.toNatClampNeg) := g_66_1
      exact k_ri B hP hD hS dX7_wish_69 ((fun k9 => match k9 with | 0 => (f49 0) | 1 => (f50 0) | 2 => (f51 0) | 3 => (f52 0) | 4 => (i 66) | _ => 0), (fun _ => 0), (fun _ => (fun _ => 0)), (fun k9 => match k9 with | 0 => g61 | _ => (fun _ => 0)), (fun _ => 0)) [22, 0, 1, 2, 17, 3, 23, 4, 5, 6, 7, 8, 9, 10, 11, 12, 13, 18, 19, 20, 21, 14, 15, 16] rfl rfl rfl (Nat.le_of_ble_eq_true rfl) (Nat.le_of_ble_eq_true rfl) (show iR (i 66) (-1) 11 from (hI 66))
    · have f_70_5 : iR x2 1 1 := iR_c c_18 (by decide +kernel)
      refine lv_tableIn (off := 52) (tgt := 70) hx hb dX7_wish_18 (by rw [c_18]; decide) (by rw [c_18]; decide) (by rw [c_18]; decide +kernel) (by decide +kernel) ?_
      refine lv_aload_n hx hb dX7_wish_70 rfl (lv_at hl 1 rfl) ?_
      refine k_get (D := (dC, dI)) (ci := 7) (v := .ref (r 21)) (C := RX7) (T := TX7) (N := 92) hx hb hts hinX7 hown hK hP 19 rfl rfl 21 (by decide) w_0 rfl rfl dX7_wish_71 ?_
      refine lv_bipush (v := 12) hx hb dX7_wish_74 (by decide +kernel) ?_
      refine lv_aload_n hx hb dX7_wish_76 rfl (lv_at hl 1 rfl) ?_
      have f_77_6 : iR (i 13) 0 1 := hI 13
      refine k_get (D := (dC, dI)) (ci := 7) (v := .int (i 13)) (C := RX7) (T := TX7) (N := 92) hx hb hts hinX7 hown hK hP 19 rfl rfl 13 (by decide) w_1 rfl rfl dX7_wish_77 ?_
      refine lv_imul hx hb dX7_wish_80 ?_
      refine lv_topi (fun y_80 ey_80 => ?_)
      have f_80_7 : iR y_80 0 12 := iR_mul ey_80 (iR_c (n := 12) (a := 12) (b := 12) (by decide +kernel) (by decide +kernel)) f_77_6 (by decide +kernel)
      refine lv_iload_n hx hb dX7_wish_81 rfl (lv_at hl 2 rfl) ?_
      refine lv_iadd hx hb dX7_wish_82 ?_
      refine lv_topi (fun y_82 ey_82 => ?_)
      have f_82_8 : iR y_82 0 23 := iR_add ey_82 f_80_7 f_10_3 (by decide +kernel)
      refine va_iald hx hb hK hP 5 0 rfl rfl (iR_vp f_82_8 (by decide +kernel)) dX7_wish_83 ?_
      exact k_ri B hP hD hS dX7_wish_84 ((fun k9 => match k9 with | 0 => (f49 0) | 1 => (f50 0) | 2 => (f51 0) | 3 => (f52 0) | 4 => (i 66) | _ => 0), (fun _ => 0), (fun _ => (fun _ => 0)), (fun k9 => match k9 with | 0 => g61 | _ => (fun _ => 0)), (fun _ => 0)) [19, 0, 1, 2, 18, 3, 4, 5, 6, 7, 8, 9, 10, 11, 12, 13, 14, 20, 21, 22, 23, 15, 16, 17] rfl rfl rfl (Nat.le_of_ble_eq_true rfl) (Nat.le_of_ble_eq_true rfl) (show iR (i 66) (-1) 11 from (hI 66))
    · have f_85_5 : iR x2 2 2 := iR_c c_18 (by decide +kernel)
      refine lv_tableIn (off := 67) (tgt := 85) hx hb dX7_wish_18 (by rw [c_18]; decide) (by rw [c_18]; decide) (by rw [c_18]; decide +kernel) (by decide +kernel) ?_
      refine lv_aload_n hx hb dX7_wish_85 rfl (lv_at hl 1 rfl) ?_
      refine k_get (D := (dC, dI)) (ci := 7) (v := .ref (r 22)) (C := RX7) (T := TX7) (N := 92) hx hb hts hinX7 hown hK hP 19 rfl rfl 22 (by decide) w_2 rfl rfl dX7_wish_86 ?_
      refine lv_bipush (v := 12) hx hb dX7_wish_89 (by decide +kernel) ?_
      refine lv_aload_n hx hb dX7_wish_91 rfl (lv_at hl 1 rfl) ?_
      have f_92_6 : iR (i 13) 0 1 := hI 13
      refine k_get (D := (dC, dI)) (ci := 7) (v := .int (i 13)) (C := RX7) (T := TX7) (N := 92) hx hb hts hinX7 hown hK hP 19 rfl rfl 13 (by decide) w_1 rfl rfl dX7_wish_92 ?_
      refine lv_imul hx hb dX7_wish_95 ?_
      refine lv_topi (fun y_95 ey_95 => ?_)
      have f_95_7 : iR y_95 0 12 := iR_mul ey_95 (iR_c (n := 12) (a := 12) (b := 12) (by decide +kernel) (by decide +kernel)) f_92_6 (by decide +kernel)
      refine lv_iload_n hx hb dX7_wish_96 rfl (lv_at hl 2 rfl) ?_
      refine lv_iadd hx hb dX7_wish_97 ?_
      refine lv_topi (fun y_97 ey_97 => ?_)
      have f_97_8 : iR y_97 0 23 := iR_add ey_97 f_95_7 f_10_3 (by decide +kernel)
      refine va_iald hx hb hK hP 6 0 rfl rfl (iR_vp f_97_8 (by decide +kernel)) dX7_wish_98 ?_
      exact k_ri B hP hD hS dX7_wish_99 ((fun k9 => match k9 with | 0 => (f49 0) | 1 => (f50 0) | 2 => (f51 0) | 3 => (f52 0) | 4 => (i 66) | _ => 0), (fun _ => 0), (fun _ => (fun _ => 0)), (fun k9 => match k9 with | 0 => g61 | _ => (fun _ => 0)), (fun _ => 0)) [19, 0, 1, 2, 18, 3, 4, 5, 6, 7, 8, 9, 10, 11, 12, 13, 14, 20, 21, 22, 23, 15, 16, 17] rfl rfl rfl (Nat.le_of_ble_eq_true rfl) (Nat.le_of_ble_eq_true rfl) (show iR (i 66) (-1) 11 from (hI 66))
    · have f_100_5 : iR x2 3 3 := iR_c c_18 (by decide +kernel)
      refine lv_tableIn (off := 82) (tgt := 100) hx hb dX7_wish_18 (by rw [c_18]; decide) (by rw [c_18]; decide) (by rw [c_18]; decide +kernel) (by decide +kernel) ?_
      refine lv_aload_n hx hb dX7_wish_100 rfl (lv_at hl 1 rfl) ?_
      refine lv_iload_n hx hb dX7_wish_101 rfl (lv_at hl 2 rfl) ?_
      refine k_ci (wc := [(h, .inr (7, oM r (upd (upd (upd (upd i 62 (f49 0)) 63 (f50 0)) 64 (f51 0)) 65 (f52 0)) j)), ((r 19), .inl (cI, 24, .inl f19))]) (wr := [((r 14), .inl (cI, 2, .inl f14)), ((r 15), .inl (cI, 20, .inl f15)), ((r 16), .inl (cI, 20, .inl f16)), ((r 20), .inl (cI, 24, .inl f20)), ((r 21), .inl (cI, 24, .inl f21)), ((r 22), .inl (cI, 24, .inl f22)), ((r 24), .inl (cI, 2, .inl f24)), ((r 25), .inl (cI, 2, .inl f25)), ((r 26), .inl (cI, 2, .inl f26)), ((r 27), .inl (cI, 2, .inl f27)), ((r 28), .inl (cI, 2, .inl f28)), ((r 29), .inl (cI, 2, .inl f29)), ((r 32), .inl (cI, 3200, .inl f32)), ((r 33), .inl (cI, 3200, .inl f33)), ((r 53), .inl (cI, 22, .inl f53)), ((r 55), .inl (cI, 1100, .inl f55)), ((r 61), .inl (cJ, 500, .inr (.inl g61))), ((r 18), .inl (cI, 2, .inl f18)), ((r 49), .inl (cI, 22, .inl f49)), ((r 50), .inl (cI, 22, .inl f50)), ((r 51), .inl (cI, 22, .inl f51)), ((r 52), .inl (cI, 22, .inl f52))]) (fun hPc hDc hFc => va_runV (As := [.int x1]) (rest := []) ⟨hx, hb, hml, hown, hts⟩ (s_X7_wordsOf_v0 l dC dI cI cJ cZ cM h r (upd (upd (upd (upd i 62 (f49 0)) 63 (f50 0)) 64 (f51 0)) 65 (f52 0)) j x1 f19 f_10_3 (mR_upd 65 (mR_upd 64 (mR_upd 63 (mR_upd 62 hI (show iR _ (loI 62) (hiI 62) from (iR_top _))) (show iR _ (loI 63) (hiI 63) from (iR_top _))) (show iR _ (loI 64) (hiI 64) from (iR_top _))) (show iR _ (loI 65) (hiI 65) from (iR_top _))) H.size) (cwV 1 hts gX7_wish_X7_wordsOf rfl rfl rfl (by decide +kernel) ⟨(Nat.le_of_ble_eq_true rfl), (Nat.le_of_ble_eq_true rfl)⟩) (k_pV hPc hDc hK hN hC hS hFc hP (q0 := 19) (ci := 7) rfl rfl) rfl rfl hl.1 rfl (lv_room (Nat.le_of_ble_eq_true rfl)) dX7_wish_102 ⟨(Nat.le_of_ble_eq_true rfl), (Nat.le_of_ble_eq_true rfl)⟩) hP hD hS hA [19, 3] [0, 1, 2, 4, 5, 6, 7, 8, 9, 10, 11, 12, 13, 14, 15, 16, 17, 18, 20, 21, 22, 23] rfl rfl rfl rfl (by decide) (fun _ => rfl) 0 0 rfl rfl (fun r_102 u_102 H locs hw hP hD hS => ?_)
      have g_102_0 := hw
      have hP : va_P (dC, dI) vwCl [((r 14), .inl (cI, 2, .inl f14)), ((r 15), .inl (cI, 20, .inl f15)), ((r 16), .inl (cI, 20, .inl f16)), ((r 20), .inl (cI, 24, .inl f20)), ((r 21), .inl (cI, 24, .inl f21)), ((r 22), .inl (cI, 24, .inl f22)), ((r 24), .inl (cI, 2, .inl f24)), ((r 25), .inl (cI, 2, .inl f25)), ((r 26), .inl (cI, 2, .inl f26)), ((r 27), .inl (cI, 2, .inl f27)), ((r 28), .inl (cI, 2, .inl f28)), ((r 29), .inl (cI, 2, .inl f29)), ((r 32), .inl (cI, 3200, .inl f32)), ((r 33), .inl (cI, 3200, .inl f33)), ((r 53), .inl (cI, 22, .inl f53)), ((r 55), .inl (cI, 1100, .inl f55)), ((r 61), .inl (cJ, 500, .inr (.inl g61))), ((r 18), .inl (cI, 2, .inl f18)), ((r 49), .inl (cI, 22, .inl f49)), ((r 50), .inl (cI, 22, .inl f50)), ((r 51), .inl (cI, 22, .inl f51)), ((r 52), .inl (cI, 22, .inl f52)), (h, .inr (7, oM r (upd (upd (upd (upd i 62 (f49 0)) 63 (f50 0)) 64 (f51 0)) 65 (f52 0)) j)), ((r 19), .inl (cI, 24, .inl f19))] H := hP
      have hD : va_D A [((r 14), .inl (cI, 2, .inl f14)), ((r 15), .inl (cI, 20, .inl f15)), ((r 16), .inl (cI, 20, .inl f16)), ((r 20), .inl (cI, 24, .inl f20)), ((r 21), .inl (cI, 24, .inl f21)), ((r 22), .inl (cI, 24, .inl f22)), ((r 24), .inl (cI, 2, .inl f24)), ((r 25), .inl (cI, 2, .inl f25)), ((r 26), .inl (cI, 2, .inl f26)), ((r 27), .inl (cI, 2, .inl f27)), ((r 28), .inl (cI, 2, .inl f28)), ((r 29), .inl (cI, 2, .inl f29)), ((r 32), .inl (cI, 3200, .inl f32)), ((r 33), .inl (cI, 3200, .inl f33)), ((r 53), .inl (cI, 22, .inl f53)), ((r 55), .inl (cI, 1100, .inl f55)), ((r 61), .inl (cJ, 500, .inr (.inl g61))), ((r 18), .inl (cI, 2, .inl f18)), ((r 49), .inl (cI, 22, .inl f49)), ((r 50), .inl (cI, 22, .inl f50)), ((r 51), .inl (cI, 22, .inl f51)), ((r 52), .inl (cI, 22, .inl f52)), (h, .inr (7, oM r (upd (upd (upd (upd i 62 (f49 0)) 63 (f50 0)) 64 (f51 0)) 65 (f52 0)) j)), ((r 19), .inl (cI, 24, .inl f19))] := hD
      have g_102_0 : r_102 = f19 (12 * (i 13).toNatClampNeg + x1.toNatClampNeg) := g_102_0
      exact k_ri B hP hD hS dX7_wish_105 ((fun k9 => match k9 with | 0 => (f49 0) | 1 => (f50 0) | 2 => (f51 0) | 3 => (f52 0) | 4 => (i 66) | _ => 0), (fun _ => 0), (fun _ => (fun _ => 0)), (fun k9 => match k9 with | 0 => g61 | _ => (fun _ => 0)), (fun _ => 0)) [22, 0, 1, 2, 17, 23, 3, 4, 5, 6, 7, 8, 9, 10, 11, 12, 13, 18, 19, 20, 21, 14, 15, 16] rfl rfl rfl (Nat.le_of_ble_eq_true rfl) (Nat.le_of_ble_eq_true rfl) (show iR (i 66) (-1) 11 from (hI 66))
    · have f_106_5 : iR x2 4 4 := iR_c c_18 (by decide +kernel)
      refine lv_tableIn (off := 88) (tgt := 106) hx hb dX7_wish_18 (by rw [c_18]; decide) (by rw [c_18]; decide) (by rw [c_18]; decide +kernel) (by decide +kernel) ?_
      refine lv_aload_n hx hb dX7_wish_106 rfl (lv_at hl 1 rfl) ?_
      refine lv_iload_n hx hb dX7_wish_107 rfl (lv_at hl 2 rfl) ?_
      refine k_ci (wc := [(h, .inr (7, oM r (upd (upd (upd (upd i 62 (f49 0)) 63 (f50 0)) 64 (f51 0)) 65 (f52 0)) j)), ((r 19), .inl (cI, 24, .inl f19))]) (wr := [((r 14), .inl (cI, 2, .inl f14)), ((r 15), .inl (cI, 20, .inl f15)), ((r 16), .inl (cI, 20, .inl f16)), ((r 20), .inl (cI, 24, .inl f20)), ((r 21), .inl (cI, 24, .inl f21)), ((r 22), .inl (cI, 24, .inl f22)), ((r 24), .inl (cI, 2, .inl f24)), ((r 25), .inl (cI, 2, .inl f25)), ((r 26), .inl (cI, 2, .inl f26)), ((r 27), .inl (cI, 2, .inl f27)), ((r 28), .inl (cI, 2, .inl f28)), ((r 29), .inl (cI, 2, .inl f29)), ((r 32), .inl (cI, 3200, .inl f32)), ((r 33), .inl (cI, 3200, .inl f33)), ((r 53), .inl (cI, 22, .inl f53)), ((r 55), .inl (cI, 1100, .inl f55)), ((r 61), .inl (cJ, 500, .inr (.inl g61))), ((r 18), .inl (cI, 2, .inl f18)), ((r 49), .inl (cI, 22, .inl f49)), ((r 50), .inl (cI, 22, .inl f50)), ((r 51), .inl (cI, 22, .inl f51)), ((r 52), .inl (cI, 22, .inl f52))]) (fun hPc hDc hFc => va_runV (As := [.int x1]) (rest := []) ⟨hx, hb, hml, hown, hts⟩ (s_X7_wordsOf_v0 l dC dI cI cJ cZ cM h r (upd (upd (upd (upd i 62 (f49 0)) 63 (f50 0)) 64 (f51 0)) 65 (f52 0)) j x1 f19 f_10_3 (mR_upd 65 (mR_upd 64 (mR_upd 63 (mR_upd 62 hI (show iR _ (loI 62) (hiI 62) from (iR_top _))) (show iR _ (loI 63) (hiI 63) from (iR_top _))) (show iR _ (loI 64) (hiI 64) from (iR_top _))) (show iR _ (loI 65) (hiI 65) from (iR_top _))) H.size) (cwV 1 hts gX7_wish_X7_wordsOf rfl rfl rfl (by decide +kernel) ⟨(Nat.le_of_ble_eq_true rfl), (Nat.le_of_ble_eq_true rfl)⟩) (k_pV hPc hDc hK hN hC hS hFc hP (q0 := 19) (ci := 7) rfl rfl) rfl rfl hl.1 rfl (lv_room (Nat.le_of_ble_eq_true rfl)) dX7_wish_108 ⟨(Nat.le_of_ble_eq_true rfl), (Nat.le_of_ble_eq_true rfl)⟩) hP hD hS hA [19, 3] [0, 1, 2, 4, 5, 6, 7, 8, 9, 10, 11, 12, 13, 14, 15, 16, 17, 18, 20, 21, 22, 23] rfl rfl rfl rfl (by decide) (fun _ => rfl) 0 0 rfl rfl (fun r_108 u_108 H locs hw hP hD hS => ?_)
      have g_108_0 := hw
      have hP : va_P (dC, dI) vwCl [((r 14), .inl (cI, 2, .inl f14)), ((r 15), .inl (cI, 20, .inl f15)), ((r 16), .inl (cI, 20, .inl f16)), ((r 20), .inl (cI, 24, .inl f20)), ((r 21), .inl (cI, 24, .inl f21)), ((r 22), .inl (cI, 24, .inl f22)), ((r 24), .inl (cI, 2, .inl f24)), ((r 25), .inl (cI, 2, .inl f25)), ((r 26), .inl (cI, 2, .inl f26)), ((r 27), .inl (cI, 2, .inl f27)), ((r 28), .inl (cI, 2, .inl f28)), ((r 29), .inl (cI, 2, .inl f29)), ((r 32), .inl (cI, 3200, .inl f32)), ((r 33), .inl (cI, 3200, .inl f33)), ((r 53), .inl (cI, 22, .inl f53)), ((r 55), .inl (cI, 1100, .inl f55)), ((r 61), .inl (cJ, 500, .inr (.inl g61))), ((r 18), .inl (cI, 2, .inl f18)), ((r 49), .inl (cI, 22, .inl f49)), ((r 50), .inl (cI, 22, .inl f50)), ((r 51), .inl (cI, 22, .inl f51)), ((r 52), .inl (cI, 22, .inl f52)), (h, .inr (7, oM r (upd (upd (upd (upd i 62 (f49 0)) 63 (f50 0)) 64 (f51 0)) 65 (f52 0)) j)), ((r 19), .inl (cI, 24, .inl f19))] H := hP
      have hD : va_D A [((r 14), .inl (cI, 2, .inl f14)), ((r 15), .inl (cI, 20, .inl f15)), ((r 16), .inl (cI, 20, .inl f16)), ((r 20), .inl (cI, 24, .inl f20)), ((r 21), .inl (cI, 24, .inl f21)), ((r 22), .inl (cI, 24, .inl f22)), ((r 24), .inl (cI, 2, .inl f24)), ((r 25), .inl (cI, 2, .inl f25)), ((r 26), .inl (cI, 2, .inl f26)), ((r 27), .inl (cI, 2, .inl f27)), ((r 28), .inl (cI, 2, .inl f28)), ((r 29), .inl (cI, 2, .inl f29)), ((r 32), .inl (cI, 3200, .inl f32)), ((r 33), .inl (cI, 3200, .inl f33)), ((r 53), .inl (cI, 22, .inl f53)), ((r 55), .inl (cI, 1100, .inl f55)), ((r 61), .inl (cJ, 500, .inr (.inl g61))), ((r 18), .inl (cI, 2, .inl f18)), ((r 49), .inl (cI, 22, .inl f49)), ((r 50), .inl (cI, 22, .inl f50)), ((r 51), .inl (cI, 22, .inl f51)), ((r 52), .inl (cI, 22, .inl f52)), (h, .inr (7, oM r (upd (upd (upd (upd i 62 (f49 0)) 63 (f50 0)) 64 (f51 0)) 65 (f52 0)) j)), ((r 19), .inl (cI, 24, .inl f19))] := hD
      have g_108_0 : r_108 = f19 (12 * (i 13).toNatClampNeg + x1.toNatClampNeg) := g_108_0
      refine lv_aload_n hx hb dX7_wish_111 rfl (lv_at hl 1 rfl) ?_
      refine lv_iload_n hx hb dX7_wish_112 rfl (lv_at hl 2 rfl) ?_
      refine k_ci (wc := [(h, .inr (7, oM r (upd (upd (upd (upd i 62 (f49 0)) 63 (f50 0)) 64 (f51 0)) 65 (f52 0)) j)), ((r 16), .inl (cI, 20, .inl f16)), ((r 20), .inl (cI, 24, .inl f20))]) (wr := [((r 14), .inl (cI, 2, .inl f14)), ((r 15), .inl (cI, 20, .inl f15)), ((r 21), .inl (cI, 24, .inl f21)), ((r 22), .inl (cI, 24, .inl f22)), ((r 24), .inl (cI, 2, .inl f24)), ((r 25), .inl (cI, 2, .inl f25)), ((r 26), .inl (cI, 2, .inl f26)), ((r 27), .inl (cI, 2, .inl f27)), ((r 28), .inl (cI, 2, .inl f28)), ((r 29), .inl (cI, 2, .inl f29)), ((r 32), .inl (cI, 3200, .inl f32)), ((r 33), .inl (cI, 3200, .inl f33)), ((r 53), .inl (cI, 22, .inl f53)), ((r 55), .inl (cI, 1100, .inl f55)), ((r 61), .inl (cJ, 500, .inr (.inl g61))), ((r 18), .inl (cI, 2, .inl f18)), ((r 49), .inl (cI, 22, .inl f49)), ((r 50), .inl (cI, 22, .inl f50)), ((r 51), .inl (cI, 22, .inl f51)), ((r 52), .inl (cI, 22, .inl f52)), ((r 19), .inl (cI, 24, .inl f19))]) (fun hPc hDc hFc => va_runV (As := [.int x1]) (rest := [.int r_108]) ⟨hx, hb, hml, hown, hts⟩ (s_X7_rhymeOf_v0 l dC dI cI cJ cZ cM h r (upd (upd (upd (upd i 62 (f49 0)) 63 (f50 0)) 64 (f51 0)) 65 (f52 0)) j x1 f16 f20 f_10_3 (mR_upd 65 (mR_upd 64 (mR_upd 63 (mR_upd 62 hI (show iR _ (loI 62) (hiI 62) from (iR_top _))) (show iR _ (loI 63) (hiI 63) from (iR_top _))) (show iR _ (loI 64) (hiI 64) from (iR_top _))) (show iR _ (loI 65) (hiI 65) from (iR_top _))) hf20 H.size) (cwV 1 hts gX7_wish_X7_rhymeOf rfl rfl rfl (by decide +kernel) ⟨(Nat.le_of_ble_eq_true rfl), (Nat.le_of_ble_eq_true rfl)⟩) (k_pV hPc hDc hK hN hC hS hFc hP (q0 := 22) (ci := 7) rfl rfl) rfl rfl hl.1 rfl (lv_room (Nat.le_of_ble_eq_true rfl)) dX7_wish_113 ⟨(Nat.le_of_ble_eq_true rfl), (Nat.le_of_ble_eq_true rfl)⟩) hP hD hS hA [22, 2, 3] [0, 1, 4, 5, 6, 7, 8, 9, 10, 11, 12, 13, 14, 15, 16, 17, 18, 19, 20, 21, 23] rfl rfl rfl rfl (by decide) (fun _ => rfl) 0 0 rfl rfl (fun r_113 u_113 H locs hw hP hD hS => ?_)
      have g_113_0 := hw
      have hP : va_P (dC, dI) vwCl [((r 14), .inl (cI, 2, .inl f14)), ((r 15), .inl (cI, 20, .inl f15)), ((r 21), .inl (cI, 24, .inl f21)), ((r 22), .inl (cI, 24, .inl f22)), ((r 24), .inl (cI, 2, .inl f24)), ((r 25), .inl (cI, 2, .inl f25)), ((r 26), .inl (cI, 2, .inl f26)), ((r 27), .inl (cI, 2, .inl f27)), ((r 28), .inl (cI, 2, .inl f28)), ((r 29), .inl (cI, 2, .inl f29)), ((r 32), .inl (cI, 3200, .inl f32)), ((r 33), .inl (cI, 3200, .inl f33)), ((r 53), .inl (cI, 22, .inl f53)), ((r 55), .inl (cI, 1100, .inl f55)), ((r 61), .inl (cJ, 500, .inr (.inl g61))), ((r 18), .inl (cI, 2, .inl f18)), ((r 49), .inl (cI, 22, .inl f49)), ((r 50), .inl (cI, 22, .inl f50)), ((r 51), .inl (cI, 22, .inl f51)), ((r 52), .inl (cI, 22, .inl f52)), ((r 19), .inl (cI, 24, .inl f19)), (h, .inr (7, oM r (upd (upd (upd (upd i 62 (f49 0)) 63 (f50 0)) 64 (f51 0)) 65 (f52 0)) j)), ((r 16), .inl (cI, 20, .inl f16)), ((r 20), .inl (cI, 24, .inl f20))] H := hP
      have hD : va_D A [((r 14), .inl (cI, 2, .inl f14)), ((r 15), .inl (cI, 20, .inl f15)), ((r 21), .inl (cI, 24, .inl f21)), ((r 22), .inl (cI, 24, .inl f22)), ((r 24), .inl (cI, 2, .inl f24)), ((r 25), .inl (cI, 2, .inl f25)), ((r 26), .inl (cI, 2, .inl f26)), ((r 27), .inl (cI, 2, .inl f27)), ((r 28), .inl (cI, 2, .inl f28)), ((r 29), .inl (cI, 2, .inl f29)), ((r 32), .inl (cI, 3200, .inl f32)), ((r 33), .inl (cI, 3200, .inl f33)), ((r 53), .inl (cI, 22, .inl f53)), ((r 55), .inl (cI, 1100, .inl f55)), ((r 61), .inl (cJ, 500, .inr (.inl g61))), ((r 18), .inl (cI, 2, .inl f18)), ((r 49), .inl (cI, 22, .inl f49)), ((r 50), .inl (cI, 22, .inl f50)), ((r 51), .inl (cI, 22, .inl f51)), ((r 52), .inl (cI, 22, .inl f52)), ((r 19), .inl (cI, 24, .inl f19)), (h, .inr (7, oM r (upd (upd (upd (upd i 62 (f49 0)) 63 (f50 0)) 64 (f51 0)) 65 (f52 0)) j)), ((r 16), .inl (cI, 20, .inl f16)), ((r 20), .inl (cI, 24, .inl f20))] := hD
      have g_113_0 : r_113 = f16 (10 * (i 13).toNatClampNeg + (f20 (12 * (i 13).toNatClampNeg + x1.toNatClampNeg)).toNatClampNeg) := g_113_0
      refine lv_iadd hx hb dX7_wish_116 ?_
      refine lv_topi (fun y_116 ey_116 => ?_)
      exact k_ri B hP hD hS dX7_wish_117 ((fun k9 => match k9 with | 0 => (f49 0) | 1 => (f50 0) | 2 => (f51 0) | 3 => (f52 0) | 4 => (i 66) | _ => 0), (fun _ => 0), (fun _ => (fun _ => 0)), (fun k9 => match k9 with | 0 => g61 | _ => (fun _ => 0)), (fun _ => 0)) [21, 0, 1, 22, 15, 20, 23, 2, 3, 4, 5, 6, 7, 8, 9, 10, 11, 16, 17, 18, 19, 12, 13, 14] rfl rfl rfl (Nat.le_of_ble_eq_true rfl) (Nat.le_of_ble_eq_true rfl) (show iR (i 66) (-1) 11 from (hI 66))
    · have f_118_5 : iR x2 5 5 := iR_c c_18 (by decide +kernel)
      refine lv_tableIn (off := 100) (tgt := 118) hx hb dX7_wish_18 (by rw [c_18]; decide) (by rw [c_18]; decide) (by rw [c_18]; decide +kernel) (by decide +kernel) ?_
      refine lv_aload_n hx hb dX7_wish_118 rfl (lv_at hl 1 rfl) ?_
      refine lv_iload_n hx hb dX7_wish_119 rfl (lv_at hl 2 rfl) ?_
      refine k_ci (wc := [(h, .inr (7, oM r (upd (upd (upd (upd i 62 (f49 0)) 63 (f50 0)) 64 (f51 0)) 65 (f52 0)) j)), ((r 14), .inl (cI, 2, .inl f14)), ((r 15), .inl (cI, 20, .inl f15)), ((r 16), .inl (cI, 20, .inl f16)), ((r 19), .inl (cI, 24, .inl f19)), ((r 20), .inl (cI, 24, .inl f20)), ((r 21), .inl (cI, 24, .inl f21)), ((r 22), .inl (cI, 24, .inl f22)), ((r 26), .inl (cI, 2, .inl f26)), ((r 27), .inl (cI, 2, .inl f27)), ((r 28), .inl (cI, 2, .inl f28)), ((r 29), .inl (cI, 2, .inl f29)), ((r 32), .inl (cI, 3200, .inl f32)), ((r 33), .inl (cI, 3200, .inl f33)), ((r 61), .inl (cJ, 500, .inr (.inl g61)))]) (wr := [((r 24), .inl (cI, 2, .inl f24)), ((r 25), .inl (cI, 2, .inl f25)), ((r 53), .inl (cI, 22, .inl f53)), ((r 55), .inl (cI, 1100, .inl f55)), ((r 18), .inl (cI, 2, .inl f18)), ((r 49), .inl (cI, 22, .inl f49)), ((r 50), .inl (cI, 22, .inl f50)), ((r 51), .inl (cI, 22, .inl f51)), ((r 52), .inl (cI, 22, .inl f52))]) (fun hPc hDc hFc => va_runV (As := [.int x1]) (rest := []) ⟨hx, hb, hml, hown, hts⟩ (s_X7_whyNot_v0 l dC dI cI cJ cZ cM h r (upd (upd (upd (upd i 62 (f49 0)) 63 (f50 0)) 64 (f51 0)) 65 (f52 0)) j x1 f14 f15 f16 f19 f20 f21 f22 f26 f27 f28 f29 f32 f33 g61 f_10_3 (mR_upd 65 (mR_upd 64 (mR_upd 63 (mR_upd 62 hI (show iR _ (loI 62) (hiI 62) from (iR_top _))) (show iR _ (loI 63) (hiI 63) from (iR_top _))) (show iR _ (loI 64) (hiI 64) from (iR_top _))) (show iR _ (loI 65) (hiI 65) from (iR_top _))) hf14 hf15 hf20 hf26 hf27 hf28 hf29 hsg26 hsg28 H.size) (cwV 1 hts gX7_wish_X7_whyNot rfl rfl rfl (by decide +kernel) ⟨(Nat.le_of_ble_eq_true rfl), (Nat.le_of_ble_eq_true rfl)⟩) (k_pV hPc hDc hK hN hC hS hFc hP (q0 := 19) (ci := 7) rfl rfl) rfl rfl hl.1 rfl (lv_room (Nat.le_of_ble_eq_true rfl)) dX7_wish_120 ⟨(Nat.le_of_ble_eq_true rfl), (Nat.le_of_ble_eq_true rfl)⟩) hP hD hS hA [19, 0, 1, 2, 3, 4, 5, 6, 9, 10, 11, 12, 13, 14, 17] [7, 8, 15, 16, 18, 20, 21, 22, 23] rfl rfl rfl rfl (by decide) (fun _ => rfl) 0 0 rfl rfl (fun r_120 u_120 H locs hw hP hD hS => ?_)
      obtain ⟨g_120_0, g_120_1, g_120_2⟩ := hw
      have hP : va_P (dC, dI) vwCl [((r 24), .inl (cI, 2, .inl f24)), ((r 25), .inl (cI, 2, .inl f25)), ((r 53), .inl (cI, 22, .inl f53)), ((r 55), .inl (cI, 1100, .inl f55)), ((r 18), .inl (cI, 2, .inl f18)), ((r 49), .inl (cI, 22, .inl f49)), ((r 50), .inl (cI, 22, .inl f50)), ((r 51), .inl (cI, 22, .inl f51)), ((r 52), .inl (cI, 22, .inl f52)), (h, .inr (7, oM r (upd (upd (upd (upd (upd i 62 (f49 0)) 63 (f50 0)) 64 (f51 0)) 65 (f52 0)) 66 (u_120.1 0)) j)), ((r 14), .inl (cI, 2, .inl f14)), ((r 15), .inl (cI, 20, .inl f15)), ((r 16), .inl (cI, 20, .inl f16)), ((r 19), .inl (cI, 24, .inl f19)), ((r 20), .inl (cI, 24, .inl f20)), ((r 21), .inl (cI, 24, .inl f21)), ((r 22), .inl (cI, 24, .inl f22)), ((r 26), .inl (cI, 2, .inl f26)), ((r 27), .inl (cI, 2, .inl f27)), ((r 28), .inl (cI, 2, .inl f28)), ((r 29), .inl (cI, 2, .inl f29)), ((r 32), .inl (cI, 3200, .inl f32)), ((r 33), .inl (cI, 3200, .inl f33)), ((r 61), .inl (cJ, 500, .inr (.inl (u_120.2.2.2.1 0))))] H := hP
      have hD : va_D A [((r 24), .inl (cI, 2, .inl f24)), ((r 25), .inl (cI, 2, .inl f25)), ((r 53), .inl (cI, 22, .inl f53)), ((r 55), .inl (cI, 1100, .inl f55)), ((r 18), .inl (cI, 2, .inl f18)), ((r 49), .inl (cI, 22, .inl f49)), ((r 50), .inl (cI, 22, .inl f50)), ((r 51), .inl (cI, 22, .inl f51)), ((r 52), .inl (cI, 22, .inl f52)), (h, .inr (7, oM r (upd (upd (upd (upd (upd i 62 (f49 0)) 63 (f50 0)) 64 (f51 0)) 65 (f52 0)) 66 (u_120.1 0)) j)), ((r 14), .inl (cI, 2, .inl f14)), ((r 15), .inl (cI, 20, .inl f15)), ((r 16), .inl (cI, 20, .inl f16)), ((r 19), .inl (cI, 24, .inl f19)), ((r 20), .inl (cI, 24, .inl f20)), ((r 21), .inl (cI, 24, .inl f21)), ((r 22), .inl (cI, 24, .inl f22)), ((r 26), .inl (cI, 2, .inl f26)), ((r 27), .inl (cI, 2, .inl f27)), ((r 28), .inl (cI, 2, .inl f28)), ((r 29), .inl (cI, 2, .inl f29)), ((r 32), .inl (cI, 3200, .inl f32)), ((r 33), .inl (cI, 3200, .inl f33)), ((r 61), .inl (cJ, 500, .inr (.inl (u_120.2.2.2.1 0))))] := hD
      have g_120_2 : r_120 = myf f14 f15 f16 f19 f20 f21 f22 f26 f27 f28 f29 f32 f33 (i 13) (f49 0) (f50 0) (f51 0) (f52 0) x1 := g_120_2
      exact k_ri B hP hD hS dX7_wish_123 ((fun k9 => match k9 with | 0 => (f49 0) | 1 => (f50 0) | 2 => (f51 0) | 3 => (f52 0) | 4 => (u_120.1 0) | _ => 0), (fun _ => 0), (fun _ => (fun _ => 0)), (fun k9 => match k9 with | 0 => (u_120.2.2.2.1 0) | _ => (fun _ => 0)), (fun _ => 0)) [9, 10, 11, 12, 4, 13, 14, 15, 16, 0, 1, 17, 18, 19, 20, 21, 22, 5, 6, 7, 8, 2, 3, 23] rfl rfl rfl (Nat.le_of_ble_eq_true rfl) (Nat.le_of_ble_eq_true rfl) (show iR (u_120.1 0) (-1) 11 from g_120_1)
    · have f_124_5 : iR x2 6 6 := iR_c c_18 (by decide +kernel)
      refine lv_tableIn (off := 106) (tgt := 124) hx hb dX7_wish_18 (by rw [c_18]; decide) (by rw [c_18]; decide) (by rw [c_18]; decide +kernel) (by decide +kernel) ?_
      refine lv_aload_n hx hb dX7_wish_124 rfl (lv_at hl 1 rfl) ?_
      refine lv_iload_n hx hb dX7_wish_125 rfl (lv_at hl 2 rfl) ?_
      refine k_ci (wc := [(h, .inr (7, oM r (upd (upd (upd (upd i 62 (f49 0)) 63 (f50 0)) 64 (f51 0)) 65 (f52 0)) j)), ((r 14), .inl (cI, 2, .inl f14)), ((r 15), .inl (cI, 20, .inl f15)), ((r 16), .inl (cI, 20, .inl f16)), ((r 19), .inl (cI, 24, .inl f19)), ((r 20), .inl (cI, 24, .inl f20)), ((r 24), .inl (cI, 2, .inl f24)), ((r 25), .inl (cI, 2, .inl f25)), ((r 32), .inl (cI, 3200, .inl f32)), ((r 33), .inl (cI, 3200, .inl f33)), ((r 61), .inl (cJ, 500, .inr (.inl g61)))]) (wr := [((r 21), .inl (cI, 24, .inl f21)), ((r 22), .inl (cI, 24, .inl f22)), ((r 26), .inl (cI, 2, .inl f26)), ((r 27), .inl (cI, 2, .inl f27)), ((r 28), .inl (cI, 2, .inl f28)), ((r 29), .inl (cI, 2, .inl f29)), ((r 53), .inl (cI, 22, .inl f53)), ((r 55), .inl (cI, 1100, .inl f55)), ((r 18), .inl (cI, 2, .inl f18)), ((r 49), .inl (cI, 22, .inl f49)), ((r 50), .inl (cI, 22, .inl f50)), ((r 51), .inl (cI, 22, .inl f51)), ((r 52), .inl (cI, 22, .inl f52))]) (fun hPc hDc hFc => va_runV (As := [.int x1]) (rest := []) ⟨hx, hb, hml, hown, hts⟩ (s_X7_darkBy_v0 l dC dI cI cJ cZ cM h r (upd (upd (upd (upd i 62 (f49 0)) 63 (f50 0)) 64 (f51 0)) 65 (f52 0)) j x1 f14 f15 f16 f19 f20 f24 f25 f32 f33 g61 f_10_3 (mR_upd 65 (mR_upd 64 (mR_upd 63 (mR_upd 62 hI (show iR _ (loI 62) (hiI 62) from (iR_top _))) (show iR _ (loI 63) (hiI 63) from (iR_top _))) (show iR _ (loI 64) (hiI 64) from (iR_top _))) (show iR _ (loI 65) (hiI 65) from (iR_top _))) hf14 hf15 hf20 hf24 hf25 hsg24 H.size) (cwV 1 hts gX7_wish_X7_darkBy rfl rfl rfl (by decide +kernel) ⟨(Nat.le_of_ble_eq_true rfl), (Nat.le_of_ble_eq_true rfl)⟩) (k_pV hPc hDc hK hN hC hS hFc hP (q0 := 19) (ci := 7) rfl rfl) rfl rfl hl.1 rfl (lv_room (Nat.le_of_ble_eq_true rfl)) dX7_wish_126 ⟨(Nat.le_of_ble_eq_true rfl), (Nat.le_of_ble_eq_true rfl)⟩) hP hD hS hA [19, 0, 1, 2, 3, 4, 7, 8, 13, 14, 17] [5, 6, 9, 10, 11, 12, 15, 16, 18, 20, 21, 22, 23] rfl rfl rfl rfl (by decide) (fun _ => rfl) 0 0 rfl rfl (fun r_126 u_126 H locs hw hP hD hS => ?_)
      have g_126_0 := hw
      have hP : va_P (dC, dI) vwCl [((r 21), .inl (cI, 24, .inl f21)), ((r 22), .inl (cI, 24, .inl f22)), ((r 26), .inl (cI, 2, .inl f26)), ((r 27), .inl (cI, 2, .inl f27)), ((r 28), .inl (cI, 2, .inl f28)), ((r 29), .inl (cI, 2, .inl f29)), ((r 53), .inl (cI, 22, .inl f53)), ((r 55), .inl (cI, 1100, .inl f55)), ((r 18), .inl (cI, 2, .inl f18)), ((r 49), .inl (cI, 22, .inl f49)), ((r 50), .inl (cI, 22, .inl f50)), ((r 51), .inl (cI, 22, .inl f51)), ((r 52), .inl (cI, 22, .inl f52)), (h, .inr (7, oM r (upd (upd (upd (upd (upd i 62 (f49 0)) 63 (f50 0)) 64 (f51 0)) 65 (f52 0)) 66 x1) j)), ((r 14), .inl (cI, 2, .inl f14)), ((r 15), .inl (cI, 20, .inl f15)), ((r 16), .inl (cI, 20, .inl f16)), ((r 19), .inl (cI, 24, .inl f19)), ((r 20), .inl (cI, 24, .inl f20)), ((r 24), .inl (cI, 2, .inl f24)), ((r 25), .inl (cI, 2, .inl f25)), ((r 32), .inl (cI, 3200, .inl f32)), ((r 33), .inl (cI, 3200, .inl f33)), ((r 61), .inl (cJ, 500, .inr (.inl (u_126.2.2.2.1 0))))] H := hP
      have hD : va_D A [((r 21), .inl (cI, 24, .inl f21)), ((r 22), .inl (cI, 24, .inl f22)), ((r 26), .inl (cI, 2, .inl f26)), ((r 27), .inl (cI, 2, .inl f27)), ((r 28), .inl (cI, 2, .inl f28)), ((r 29), .inl (cI, 2, .inl f29)), ((r 53), .inl (cI, 22, .inl f53)), ((r 55), .inl (cI, 1100, .inl f55)), ((r 18), .inl (cI, 2, .inl f18)), ((r 49), .inl (cI, 22, .inl f49)), ((r 50), .inl (cI, 22, .inl f50)), ((r 51), .inl (cI, 22, .inl f51)), ((r 52), .inl (cI, 22, .inl f52)), (h, .inr (7, oM r (upd (upd (upd (upd (upd i 62 (f49 0)) 63 (f50 0)) 64 (f51 0)) 65 (f52 0)) 66 x1) j)), ((r 14), .inl (cI, 2, .inl f14)), ((r 15), .inl (cI, 20, .inl f15)), ((r 16), .inl (cI, 20, .inl f16)), ((r 19), .inl (cI, 24, .inl f19)), ((r 20), .inl (cI, 24, .inl f20)), ((r 24), .inl (cI, 2, .inl f24)), ((r 25), .inl (cI, 2, .inl f25)), ((r 32), .inl (cI, 3200, .inl f32)), ((r 33), .inl (cI, 3200, .inl f33)), ((r 61), .inl (cJ, 500, .inr (.inl (u_126.2.2.2.1 0))))] := hD
      exact k_ri B hP hD hS dX7_wish_129 ((fun k9 => match k9 with | 0 => (f49 0) | 1 => (f50 0) | 2 => (f51 0) | 3 => (f52 0) | 4 => x1 | _ => 0), (fun _ => 0), (fun _ => (fun _ => 0)), (fun k9 => match k9 with | 0 => (u_126.2.2.2.1 0) | _ => (fun _ => 0)), (fun _ => 0)) [13, 14, 15, 16, 8, 17, 18, 0, 1, 19, 20, 2, 3, 4, 5, 21, 22, 9, 10, 11, 12, 6, 7, 23] rfl rfl rfl (Nat.le_of_ble_eq_true rfl) (Nat.le_of_ble_eq_true rfl) (show iR x1 (-1) 11 from (iR_w f_10_3 (by decide +kernel)))
    · have f_130_5 : iR x2 7 7 := iR_c c_18 (by decide +kernel)
      refine lv_tableIn (off := 112) (tgt := 130) hx hb dX7_wish_18 (by rw [c_18]; decide) (by rw [c_18]; decide) (by rw [c_18]; decide +kernel) (by decide +kernel) ?_
      refine lv_iconst (v := 0) hx hb dX7_wish_130 (by decide +kernel) ?_
      have J_133 : ∀ (n_133 : Nat) (j133_L3 : Int32) (j133_L4 : Int32) (hj133_L4 : iR j133_L4 0 50) (hm_133 : (50 - j133_L4.toInt).toNat < n_133) (H : Heap) (locs : List Loc) (ls : Array Slot), va_P (dC, dI) vwCl [(h, .inr (7, oM r (upd (upd (upd (upd i 62 (f49 0)) 63 (f50 0)) 64 (f51 0)) 65 (f52 0)) j)), ((r 14), .inl (cI, 2, .inl f14)), ((r 15), .inl (cI, 20, .inl f15)), ((r 16), .inl (cI, 20, .inl f16)), ((r 18), .inl (cI, 2, .inl f18)), ((r 19), .inl (cI, 24, .inl f19)), ((r 20), .inl (cI, 24, .inl f20)), ((r 21), .inl (cI, 24, .inl f21)), ((r 22), .inl (cI, 24, .inl f22)), ((r 24), .inl (cI, 2, .inl f24)), ((r 25), .inl (cI, 2, .inl f25)), ((r 26), .inl (cI, 2, .inl f26)), ((r 27), .inl (cI, 2, .inl f27)), ((r 28), .inl (cI, 2, .inl f28)), ((r 29), .inl (cI, 2, .inl f29)), ((r 32), .inl (cI, 3200, .inl f32)), ((r 33), .inl (cI, 3200, .inl f33)), ((r 49), .inl (cI, 22, .inl f49)), ((r 50), .inl (cI, 22, .inl f50)), ((r 51), .inl (cI, 22, .inl f51)), ((r 52), .inl (cI, 22, .inl f52)), ((r 53), .inl (cI, 22, .inl f53)), ((r 55), .inl (cI, 1100, .inl f55)), ((r 61), .inl (cJ, 500, .inr (.inl g61)))] H → va_D A [(h, .inr (7, oM r (upd (upd (upd (upd i 62 (f49 0)) 63 (f50 0)) 64 (f51 0)) 65 (f52 0)) j)), ((r 14), .inl (cI, 2, .inl f14)), ((r 15), .inl (cI, 20, .inl f15)), ((r 16), .inl (cI, 20, .inl f16)), ((r 18), .inl (cI, 2, .inl f18)), ((r 19), .inl (cI, 24, .inl f19)), ((r 20), .inl (cI, 24, .inl f20)), ((r 21), .inl (cI, 24, .inl f21)), ((r 22), .inl (cI, 24, .inl f22)), ((r 24), .inl (cI, 2, .inl f24)), ((r 25), .inl (cI, 2, .inl f25)), ((r 26), .inl (cI, 2, .inl f26)), ((r 27), .inl (cI, 2, .inl f27)), ((r 28), .inl (cI, 2, .inl f28)), ((r 29), .inl (cI, 2, .inl f29)), ((r 32), .inl (cI, 3200, .inl f32)), ((r 33), .inl (cI, 3200, .inl f33)), ((r 49), .inl (cI, 22, .inl f49)), ((r 50), .inl (cI, 22, .inl f50)), ((r 51), .inl (cI, 22, .inl f51)), ((r 52), .inl (cI, 22, .inl f52)), ((r 53), .inl (cI, 22, .inl f53)), ((r 55), .inl (cI, 1100, .inl f55)), ((r 61), .inl (cJ, 500, .inr (.inl g61)))] → va_S A s.heap H locs → lv_has ls 5 [(0, .ref h), (1, .int x1), (3, .int j133_L3), (4, .int j133_L4)] → W p l e ({ frames := 7, cells := 0, slots := 0, locals := 173 }) s m args below meth c H locs 0 0 (MQ below (va_Qi (fun (r9 : Int32) (u9 : SU) => (iR (u9.1 4) (-1) 11)) (fun u => k_B (dC, dI) vwCl (tyy cI cJ cZ cM) A ((fun (u9 : SU) => [(h, .inr (7, oM r (upd (upd (upd (upd (upd i 62 (u9.1 0)) 63 (u9.1 1)) 64 (u9.1 2)) 65 (u9.1 3)) 66 (u9.1 4)) j)), ((r 14), .inl (cI, 2, .inl f14)), ((r 15), .inl (cI, 20, .inl f15)), ((r 16), .inl (cI, 20, .inl f16)), ((r 18), .inl (cI, 2, .inl f18)), ((r 19), .inl (cI, 24, .inl f19)), ((r 20), .inl (cI, 24, .inl f20)), ((r 21), .inl (cI, 24, .inl f21)), ((r 22), .inl (cI, 24, .inl f22)), ((r 24), .inl (cI, 2, .inl f24)), ((r 25), .inl (cI, 2, .inl f25)), ((r 26), .inl (cI, 2, .inl f26)), ((r 27), .inl (cI, 2, .inl f27)), ((r 28), .inl (cI, 2, .inl f28)), ((r 29), .inl (cI, 2, .inl f29)), ((r 32), .inl (cI, 3200, .inl f32)), ((r 33), .inl (cI, 3200, .inl f33)), ((r 49), .inl (cI, 22, .inl f49)), ((r 50), .inl (cI, 22, .inl f50)), ((r 51), .inl (cI, 22, .inl f51)), ((r 52), .inl (cI, 22, .inl f52)), ((r 53), .inl (cI, 22, .inl f53)), ((r 55), .inl (cI, 1100, .inl f55)), ((r 61), .inl (cJ, 500, .inr (.inl (u9.2.2.2.1 0))))]) u)) A) args s 0 0 A) (F0 m 133 ls []) := by
        intro n_133
        induction n_133 with
        | zero => intro j133_L3 j133_L4 hj133_L4 hm_133; exact absurd hm_133 (Nat.not_lt_zero _)
        | succ n_133 ih_133 =>
          intro j133_L3 j133_L4 hj133_L4 hm_133 H locs ls hP hD hS hl
          refine lv_iload hx hb dX7_wish_133 (lv_at hl 3 rfl) ?_
          refine lv_aload_n hx hb dX7_wish_135 rfl (lv_at hl 0 rfl) ?_
          refine k_get (D := (dC, dI)) (ci := 7) (v := .ref (r 53)) (C := RX7) (T := TX7) (N := 92) hx hb hts hinX7 hown hK hP 0 rfl rfl 53 (by decide) w_3 rfl rfl dX7_wish_136 ?_
          refine lv_iconst (v := 0) hx hb dX7_wish_139 (by decide +kernel) ?_
          refine k_iald (v := (f53 0)) hx hb hK hP 21 0 0 rfl rfl rfl (Nat.le_of_ble_eq_true rfl) (Nat.le_of_ble_eq_true rfl) rfl dX7_wish_140 ?_
          have f_140_1 : iR (f53 0) 0 50 := hf53 _
          refine lv_icmp_ge (tgt := 169) hx hb dX7_wish_141 (by decide) (fun c_141 => ?_) (fun c_141 => ?_)
          · have c_141 : (f53 0) ≤ j133_L4 := c_141
            refine lv_iload_n hx hb dX7_wish_169 rfl (lv_at hl 2 rfl) ?_
            exact k_ri B hP hD hS dX7_wish_170 ((fun k9 => match k9 with | 0 => (f49 0) | 1 => (f50 0) | 2 => (f51 0) | 3 => (f52 0) | 4 => (i 66) | _ => 0), (fun _ => 0), (fun _ => (fun _ => 0)), (fun k9 => match k9 with | 0 => g61 | _ => (fun _ => 0)), (fun _ => 0)) [0, 1, 2, 3, 4, 5, 6, 7, 8, 9, 10, 11, 12, 13, 14, 15, 16, 17, 18, 19, 20, 21, 22, 23] rfl rfl rfl (Nat.le_of_ble_eq_true rfl) (Nat.le_of_ble_eq_true rfl) (show iR (i 66) (-1) 11 from (hI 66))
          · have c_141 : j133_L4 < (f53 0) := i_nle c_141
            have f_144_2 : iR j133_L4 0 49 := iR_ltL c_141 hj133_L4 f_140_1 (by decide +kernel)
            have f_144_3 : iR (f53 0) 1 50 := iR_ltR c_141 hj133_L4 f_140_1 (by decide +kernel)
            refine lv_iload_n hx hb dX7_wish_144 rfl (lv_at hl 2 rfl) ?_
            refine lv_aload_n hx hb dX7_wish_145 rfl (lv_at hl 0 rfl) ?_
            refine k_get (D := (dC, dI)) (ci := 7) (v := .ref (r 55)) (C := RX7) (T := TX7) (N := 92) hx hb hts hinX7 hown hK hP 0 rfl rfl 55 (by decide) w_4 rfl rfl dX7_wish_146 ?_
            refine lv_iload hx hb dX7_wish_149 (lv_at hl 3 rfl) ?_
            refine va_iald hx hb hK hP 22 0 rfl rfl (iR_vp f_144_2 (by decide +kernel)) dX7_wish_151 ?_
            refine lv_iload_n hx hb dX7_wish_152 rfl (lv_at hl 1 rfl) ?_
            have J_161 : ∀ (j161_S0 : Int32) (hj161_S0 : iR j161_S0 0 1) (H : Heap) (locs : List Loc) (ls : Array Slot), va_P (dC, dI) vwCl [(h, .inr (7, oM r (upd (upd (upd (upd i 62 (f49 0)) 63 (f50 0)) 64 (f51 0)) 65 (f52 0)) j)), ((r 14), .inl (cI, 2, .inl f14)), ((r 15), .inl (cI, 20, .inl f15)), ((r 16), .inl (cI, 20, .inl f16)), ((r 18), .inl (cI, 2, .inl f18)), ((r 19), .inl (cI, 24, .inl f19)), ((r 20), .inl (cI, 24, .inl f20)), ((r 21), .inl (cI, 24, .inl f21)), ((r 22), .inl (cI, 24, .inl f22)), ((r 24), .inl (cI, 2, .inl f24)), ((r 25), .inl (cI, 2, .inl f25)), ((r 26), .inl (cI, 2, .inl f26)), ((r 27), .inl (cI, 2, .inl f27)), ((r 28), .inl (cI, 2, .inl f28)), ((r 29), .inl (cI, 2, .inl f29)), ((r 32), .inl (cI, 3200, .inl f32)), ((r 33), .inl (cI, 3200, .inl f33)), ((r 49), .inl (cI, 22, .inl f49)), ((r 50), .inl (cI, 22, .inl f50)), ((r 51), .inl (cI, 22, .inl f51)), ((r 52), .inl (cI, 22, .inl f52)), ((r 53), .inl (cI, 22, .inl f53)), ((r 55), .inl (cI, 1100, .inl f55)), ((r 61), .inl (cJ, 500, .inr (.inl g61)))] H → va_D A [(h, .inr (7, oM r (upd (upd (upd (upd i 62 (f49 0)) 63 (f50 0)) 64 (f51 0)) 65 (f52 0)) j)), ((r 14), .inl (cI, 2, .inl f14)), ((r 15), .inl (cI, 20, .inl f15)), ((r 16), .inl (cI, 20, .inl f16)), ((r 18), .inl (cI, 2, .inl f18)), ((r 19), .inl (cI, 24, .inl f19)), ((r 20), .inl (cI, 24, .inl f20)), ((r 21), .inl (cI, 24, .inl f21)), ((r 22), .inl (cI, 24, .inl f22)), ((r 24), .inl (cI, 2, .inl f24)), ((r 25), .inl (cI, 2, .inl f25)), ((r 26), .inl (cI, 2, .inl f26)), ((r 27), .inl (cI, 2, .inl f27)), ((r 28), .inl (cI, 2, .inl f28)), ((r 29), .inl (cI, 2, .inl f29)), ((r 32), .inl (cI, 3200, .inl f32)), ((r 33), .inl (cI, 3200, .inl f33)), ((r 49), .inl (cI, 22, .inl f49)), ((r 50), .inl (cI, 22, .inl f50)), ((r 51), .inl (cI, 22, .inl f51)), ((r 52), .inl (cI, 22, .inl f52)), ((r 53), .inl (cI, 22, .inl f53)), ((r 55), .inl (cI, 1100, .inl f55)), ((r 61), .inl (cJ, 500, .inr (.inl g61)))] → va_S A s.heap H locs → lv_has ls 5 [(0, .ref h), (1, .int x1), (4, .int j133_L4)] → W p l e ({ frames := 7, cells := 0, slots := 0, locals := 173 }) s m args below meth c H locs 0 0 (MQ below (va_Qi (fun (r9 : Int32) (u9 : SU) => (iR (u9.1 4) (-1) 11)) (fun u => k_B (dC, dI) vwCl (tyy cI cJ cZ cM) A ((fun (u9 : SU) => [(h, .inr (7, oM r (upd (upd (upd (upd (upd i 62 (u9.1 0)) 63 (u9.1 1)) 64 (u9.1 2)) 65 (u9.1 3)) 66 (u9.1 4)) j)), ((r 14), .inl (cI, 2, .inl f14)), ((r 15), .inl (cI, 20, .inl f15)), ((r 16), .inl (cI, 20, .inl f16)), ((r 18), .inl (cI, 2, .inl f18)), ((r 19), .inl (cI, 24, .inl f19)), ((r 20), .inl (cI, 24, .inl f20)), ((r 21), .inl (cI, 24, .inl f21)), ((r 22), .inl (cI, 24, .inl f22)), ((r 24), .inl (cI, 2, .inl f24)), ((r 25), .inl (cI, 2, .inl f25)), ((r 26), .inl (cI, 2, .inl f26)), ((r 27), .inl (cI, 2, .inl f27)), ((r 28), .inl (cI, 2, .inl f28)), ((r 29), .inl (cI, 2, .inl f29)), ((r 32), .inl (cI, 3200, .inl f32)), ((r 33), .inl (cI, 3200, .inl f33)), ((r 49), .inl (cI, 22, .inl f49)), ((r 50), .inl (cI, 22, .inl f50)), ((r 51), .inl (cI, 22, .inl f51)), ((r 52), .inl (cI, 22, .inl f52)), ((r 53), .inl (cI, 22, .inl f53)), ((r 55), .inl (cI, 1100, .inl f55)), ((r 61), .inl (cJ, 500, .inr (.inl (u9.2.2.2.1 0))))]) u)) A) args s 0 0 A) (F0 m 161 ls [.int j161_S0, .int j133_L3]) := by
              intro j161_S0 hj161_S0 H locs ls hP hD hS hl
              refine lv_iadd hx hb dX7_wish_161 ?_
              refine lv_topi (fun y_161 ey_161 => ?_)
              refine lv_istore_n (lv' := [(3, .int y_161), (0, .ref h), (1, .int x1), (4, .int j133_L4)]) hx hb dX7_wish_162 rfl hl (by decide) rfl (fun ls hl => ?_)
              obtain ⟨y_163, ey_163⟩ : ∃ y : Int32, y = j133_L4 + 1 := ⟨_, rfl⟩
              refine lv_iinc (v := y_163) (lv' := [(4, .int y_163), (3, .int y_161), (0, .ref h), (1, .int x1)]) hx hb dX7_wish_163 hl (k := 3) rfl ey_163.symm (by decide) rfl (fun ls hl => ?_)
              have f_163_1 : iR y_163 1 50 := iR_add ey_163 f_144_2 (iR_c (n := 1) (a := 1) (b := 1) (by decide +kernel) (by decide +kernel)) (by decide +kernel)
              refine lv_goto (tgt := 133) hx hb dX7_wish_166 (by decide) ?_
              exact ih_133 y_161 y_163 (iR_w f_163_1 (by decide +kernel)) (m_up (B := 50) hm_133 ey_163 f_144_2 (by decide +kernel)) H locs ls hP hD hS (lv_sub hl [2, 3, 1, 0] rfl)
            refine lv_icmp_ne (tgt := 160) hx hb dX7_wish_153 (by decide) (fun c_153 => ?_) (fun c_153 => ?_)
            · have c_153 : ¬ (f55 j133_L4.toNatClampNeg) = x1 := c_153
              refine lv_iconst (v := 0) hx hb dX7_wish_160 (by decide +kernel) ?_
              exact J_161 0 (iR_c (n := 0) (a := 0) (b := 1) (by decide +kernel) (by decide +kernel)) H locs ls hP hD hS (lv_sub hl [0, 1, 3] rfl)
            · have c_153 : (f55 j133_L4.toNatClampNeg) = x1 := c_153
              have f_156_4 : iR (f55 j133_L4.toNatClampNeg) 0 11 := iR_eqL c_153 (iR_top _) f_10_3 (by decide +kernel)
              refine lv_iconst (v := 1) hx hb dX7_wish_156 (by decide +kernel) ?_
              refine lv_goto (tgt := 161) hx hb dX7_wish_157 (by decide) ?_
              exact J_161 1 (iR_c (n := 1) (a := 0) (b := 1) (by decide +kernel) (by decide +kernel)) H locs ls hP hD hS (lv_sub hl [0, 1, 3] rfl)
      refine lv_istore (lv' := [(4, .int 0), (3, .int 0), (0, .ref h), (1, .int x1), (2, .int x2)]) hx hb dX7_wish_131 hl (by decide) rfl (fun ls hl => ?_)
      exact J_133 _ 0 0 (iR_c (n := 0) (a := 0) (b := 50) (by decide +kernel) (by decide +kernel)) (Nat.lt_succ_self _) H locs ls (hP.sub [19, 0, 1, 2, 18, 3, 4, 5, 6, 7, 8, 9, 10, 11, 12, 13, 14, 20, 21, 22, 23, 15, 16, 17] rfl) (hD.sub [19, 0, 1, 2, 18, 3, 4, 5, 6, 7, 8, 9, 10, 11, 12, 13, 14, 20, 21, 22, 23, 15, 16, 17] (by decide +kernel) rfl) hS (lv_sub hl [2, 3, 1, 0] rfl)
    · refine lv_tableOut (tgt := 171) hx hb dX7_wish_18 (by omega) (by decide +kernel) ?_
      refine lv_iconst (v := (-1)) hx hb dX7_wish_171 (by decide +kernel) ?_
      exact k_ri B hP hD hS dX7_wish_172 ((fun k9 => match k9 with | 0 => (f49 0) | 1 => (f50 0) | 2 => (f51 0) | 3 => (f52 0) | 4 => (i 66) | _ => 0), (fun _ => 0), (fun _ => (fun _ => 0)), (fun k9 => match k9 with | 0 => g61 | _ => (fun _ => 0)), (fun _ => 0)) [19, 0, 1, 2, 18, 3, 4, 5, 6, 7, 8, 9, 10, 11, 12, 13, 14, 20, 21, 22, 23, 15, 16, 17] rfl rfl rfl (Nat.le_of_ble_eq_true rfl) (Nat.le_of_ble_eq_true rfl) (show iR (i 66) (-1) 11 from (hI 66))
  · have c_5 : r_2 = 0 := c_5
    have f_8_1 : iR r_2 0 0 := iR_eqL c_5 g_2_0 (iR_c (n := 0) (a := 0) (b := 0) (by decide +kernel) (by decide +kernel)) (by decide +kernel)
    refine lv_iconst (v := (-1)) hx hb dX7_wish_8 (by decide +kernel) ?_
    exact k_ri B hP hD hS dX7_wish_9 ((fun k9 => match k9 with | 0 => (i 62) | 1 => (i 63) | 2 => (i 64) | 3 => (i 65) | 4 => (i 66) | _ => 0), (fun _ => 0), (fun _ => (fun _ => 0)), (fun k9 => match k9 with | 0 => g61 | _ => (fun _ => 0)), (fun _ => 0)) [22, 0, 1, 2, 23, 3, 4, 5, 6, 7, 8, 9, 10, 11, 12, 13, 14, 15, 16, 17, 18, 19, 20, 21] rfl rfl rfl (Nat.le_of_ble_eq_true rfl) (Nat.le_of_ble_eq_true rfl) (show iR (i 66) (-1) 11 from (hI 66))
set_option maxHeartbeats 8000000 in
set_option maxRecDepth 100000 in
theorem s_X7_maySay_v0 (l : Launch) (dC : Nat → ClassId) (dI : Nat → Nat → Nat) (cI cJ cZ cM : ClassId) (h : Nat) (r : Nat → Nat) (i : Nat → Int32) (j : Nat → Int64) (x1 : Int32) (x2 : Int32) (f14 : Nat → Int32) (f15 : Nat → Int32) (f16 : Nat → Int32) (f19 : Nat → Int32) (f20 : Nat → Int32) (f21 : Nat → Int32) (f22 : Nat → Int32) (f26 : Nat → Int32) (f27 : Nat → Int32) (f28 : Nat → Int32) (f29 : Nat → Int32) (f32 : Nat → Int32) (f33 : Nat → Int32) (f49 : Nat → Int32) (f50 : Nat → Int32) (f51 : Nat → Int32) (f52 : Nat → Int32) (g61 : Nat → Int64) (hx1 : iR x1 0 21) (hx2 : iR x2 0 11) (hI : mR i) (hf14 : aR f14 0 10) (hf15 : aR f15 0 9999) (hf20 : aR f20 0 9) (hf26 : aR f26 (-1) 1600) (hf27 : aR f27 0 1600) (hf28 : aR f28 (-1) 1600) (hf29 : aR f29 0 1600) (hf49 : aR f49 0 1023) (hf50 : aR f50 0 999) (hsg26 : SEG f26 f27 f32 (i 13).toNatClampNeg 1600) (hsg28 : SEG f28 f29 f32 (i 13).toNatClampNeg 1600) : k_Mi l yX7_maySay wsX7_maySay ({ frames := 7, cells := 0, slots := 0, locals := 173 }) (dC, dI) vwCl (tyy cI cJ cZ cM) [(h, .inr (7, oM r i j)), ((r 14), .inl (cI, 2, .inl f14)), ((r 15), .inl (cI, 20, .inl f15)), ((r 16), .inl (cI, 20, .inl f16)), ((r 19), .inl (cI, 24, .inl f19)), ((r 20), .inl (cI, 24, .inl f20)), ((r 21), .inl (cI, 24, .inl f21)), ((r 22), .inl (cI, 24, .inl f22)), ((r 26), .inl (cI, 2, .inl f26)), ((r 27), .inl (cI, 2, .inl f27)), ((r 28), .inl (cI, 2, .inl f28)), ((r 29), .inl (cI, 2, .inl f29)), ((r 32), .inl (cI, 3200, .inl f32)), ((r 33), .inl (cI, 3200, .inl f33)), ((r 49), .inl (cI, 22, .inl f49)), ((r 50), .inl (cI, 22, .inl f50)), ((r 51), .inl (cI, 22, .inl f51)), ((r 52), .inl (cI, 22, .inl f52)), ((r 61), .inl (cJ, 500, .inr (.inl g61)))] [.ref h, .int x1, .int x2] 0 0 (fun (u9 : SU) => [(h, .inr (7, oM r (upd (upd (upd (upd (upd i 62 (f49 x1.toNatClampNeg)) 63 (f50 x1.toNatClampNeg)) 64 (f51 x1.toNatClampNeg)) 65 (f52 x1.toNatClampNeg)) 66 (u9.1 0)) j)), ((r 14), .inl (cI, 2, .inl f14)), ((r 15), .inl (cI, 20, .inl f15)), ((r 16), .inl (cI, 20, .inl f16)), ((r 19), .inl (cI, 24, .inl f19)), ((r 20), .inl (cI, 24, .inl f20)), ((r 21), .inl (cI, 24, .inl f21)), ((r 22), .inl (cI, 24, .inl f22)), ((r 26), .inl (cI, 2, .inl f26)), ((r 27), .inl (cI, 2, .inl f27)), ((r 28), .inl (cI, 2, .inl f28)), ((r 29), .inl (cI, 2, .inl f29)), ((r 32), .inl (cI, 3200, .inl f32)), ((r 33), .inl (cI, 3200, .inl f33)), ((r 49), .inl (cI, 22, .inl f49)), ((r 50), .inl (cI, 22, .inl f50)), ((r 51), .inl (cI, 22, .inl f51)), ((r 52), .inl (cI, 22, .inl f52)), ((r 61), .inl (cJ, 500, .inr (.inl (u9.2.2.2.1 0))))]) (fun (r9 : Int32) (u9 : SU) => (iR r9 0 1) ∧ (iR (u9.1 0) (-1) 11) ∧ (r9 = if myf f14 f15 f16 f19 f20 f21 f22 f26 f27 f28 f29 f32 f33 (i 13) (f49 x1.toNatClampNeg) (f50 x1.toNatClampNeg) (f51 x1.toNatClampNeg) (f52 x1.toNatClampNeg) x2 = 0 then 1 else 0)) := by
  refine fun sz => k_enter (cc := cX7_maySay) (maxL := 3) (ret := some (.boolean)) (Qc := fun A => va_Qi (fun (r9 : Int32) (u9 : SU) => (iR r9 0 1) ∧ (iR (u9.1 0) (-1) 11) ∧ (r9 = if myf f14 f15 f16 f19 f20 f21 f22 f26 f27 f28 f29 f32 f33 (i 13) (f49 x1.toNatClampNeg) (f50 x1.toNatClampNeg) (f51 x1.toNatClampNeg) (f52 x1.toNatClampNeg) x2 = 0 then 1 else 0)) (fun u => k_B (dC, dI) vwCl (tyy cI cJ cZ cM) A ((fun (u9 : SU) => [(h, .inr (7, oM r (upd (upd (upd (upd (upd i 62 (f49 x1.toNatClampNeg)) 63 (f50 x1.toNatClampNeg)) 64 (f51 x1.toNatClampNeg)) 65 (f52 x1.toNatClampNeg)) 66 (u9.1 0)) j)), ((r 14), .inl (cI, 2, .inl f14)), ((r 15), .inl (cI, 20, .inl f15)), ((r 16), .inl (cI, 20, .inl f16)), ((r 19), .inl (cI, 24, .inl f19)), ((r 20), .inl (cI, 24, .inl f20)), ((r 21), .inl (cI, 24, .inl f21)), ((r 22), .inl (cI, 24, .inl f22)), ((r 26), .inl (cI, 2, .inl f26)), ((r 27), .inl (cI, 2, .inl f27)), ((r 28), .inl (cI, 2, .inl f28)), ((r 29), .inl (cI, 2, .inl f29)), ((r 32), .inl (cI, 3200, .inl f32)), ((r 33), .inl (cI, 3200, .inl f33)), ((r 49), .inl (cI, 22, .inl f49)), ((r 50), .inl (cI, 22, .inl f50)), ((r 51), .inl (cI, 22, .inl f51)), ((r 52), .inl (cI, 22, .inl f52)), ((r 61), .inl (cJ, 500, .inr (.inl (u9.2.2.2.1 0))))]) u)) A) sz (by decide +kernel) rfl (Nat.le_of_ble_eq_true rfl) (fun p e s m args below meth c A ls H locs B hP hD hS hl => ?_)
  obtain ⟨hx, hb, hml, hown, hts, hr, hlk, hnm, hK, hA, hN, hC⟩ := id B
  have hown : s.vm.findClass RX7 = some m.cls := hown
  have hl : lv_has ls 3 [(0, .ref h), (1, .int x1), (2, .int x2)] := hl
  refine lv_aload_n hx hb dX7_maySay_0 rfl (lv_at hl 0 rfl) ?_
  refine lv_iload_n hx hb dX7_maySay_1 rfl (lv_at hl 1 rfl) ?_
  refine k_cv (wc := [(h, .inr (7, oM r i j)), ((r 49), .inl (cI, 22, .inl f49)), ((r 50), .inl (cI, 22, .inl f50)), ((r 51), .inl (cI, 22, .inl f51)), ((r 52), .inl (cI, 22, .inl f52))]) (wr := [((r 14), .inl (cI, 2, .inl f14)), ((r 15), .inl (cI, 20, .inl f15)), ((r 16), .inl (cI, 20, .inl f16)), ((r 19), .inl (cI, 24, .inl f19)), ((r 20), .inl (cI, 24, .inl f20)), ((r 21), .inl (cI, 24, .inl f21)), ((r 22), .inl (cI, 24, .inl f22)), ((r 26), .inl (cI, 2, .inl f26)), ((r 27), .inl (cI, 2, .inl f27)), ((r 28), .inl (cI, 2, .inl f28)), ((r 29), .inl (cI, 2, .inl f29)), ((r 32), .inl (cI, 3200, .inl f32)), ((r 33), .inl (cI, 3200, .inl f33)), ((r 61), .inl (cJ, 500, .inr (.inl g61)))]) (fun hPc hDc hFc => va_runV (As := [.int x1]) (rest := []) ⟨hx, hb, hml, hown, hts⟩ (s_X7_asksLayer_v0 l dC dI cI cJ cZ cM h r i j x1 f49 f50 f51 f52 hx1 hI hf49 hf50 H.size) (cwV 1 hts gX7_maySay_X7_asksLayer rfl rfl rfl (by decide +kernel) ⟨(Nat.le_of_ble_eq_true rfl), (Nat.le_of_ble_eq_true rfl)⟩) (k_pV hPc hDc hK hN hC hS hFc hP (q0 := 0) (ci := 7) rfl rfl) rfl rfl hl.1 rfl (lv_room (Nat.le_of_ble_eq_true rfl)) dX7_maySay_2 ⟨(Nat.le_of_ble_eq_true rfl), (Nat.le_of_ble_eq_true rfl)⟩) hP hD hS hA [0, 14, 15, 16, 17] [1, 2, 3, 4, 5, 6, 7, 8, 9, 10, 11, 12, 13, 18] rfl rfl rfl rfl (by decide) (fun _ => rfl) 0 0 rfl rfl (fun u_2 H locs hw hP hD hS => ?_)
  have hP : va_P (dC, dI) vwCl [((r 14), .inl (cI, 2, .inl f14)), ((r 15), .inl (cI, 20, .inl f15)), ((r 16), .inl (cI, 20, .inl f16)), ((r 19), .inl (cI, 24, .inl f19)), ((r 20), .inl (cI, 24, .inl f20)), ((r 21), .inl (cI, 24, .inl f21)), ((r 22), .inl (cI, 24, .inl f22)), ((r 26), .inl (cI, 2, .inl f26)), ((r 27), .inl (cI, 2, .inl f27)), ((r 28), .inl (cI, 2, .inl f28)), ((r 29), .inl (cI, 2, .inl f29)), ((r 32), .inl (cI, 3200, .inl f32)), ((r 33), .inl (cI, 3200, .inl f33)), ((r 61), .inl (cJ, 500, .inr (.inl g61))), (h, .inr (7, oM r (upd (upd (upd (upd i 62 (f49 x1.toNatClampNeg)) 63 (f50 x1.toNatClampNeg)) 64 (f51 x1.toNatClampNeg)) 65 (f52 x1.toNatClampNeg)) j)), ((r 49), .inl (cI, 22, .inl f49)), ((r 50), .inl (cI, 22, .inl f50)), ((r 51), .inl (cI, 22, .inl f51)), ((r 52), .inl (cI, 22, .inl f52))] H := hP
  have hD : va_D A [((r 14), .inl (cI, 2, .inl f14)), ((r 15), .inl (cI, 20, .inl f15)), ((r 16), .inl (cI, 20, .inl f16)), ((r 19), .inl (cI, 24, .inl f19)), ((r 20), .inl (cI, 24, .inl f20)), ((r 21), .inl (cI, 24, .inl f21)), ((r 22), .inl (cI, 24, .inl f22)), ((r 26), .inl (cI, 2, .inl f26)), ((r 27), .inl (cI, 2, .inl f27)), ((r 28), .inl (cI, 2, .inl f28)), ((r 29), .inl (cI, 2, .inl f29)), ((r 32), .inl (cI, 3200, .inl f32)), ((r 33), .inl (cI, 3200, .inl f33)), ((r 61), .inl (cJ, 500, .inr (.inl g61))), (h, .inr (7, oM r (upd (upd (upd (upd i 62 (f49 x1.toNatClampNeg)) 63 (f50 x1.toNatClampNeg)) 64 (f51 x1.toNatClampNeg)) 65 (f52 x1.toNatClampNeg)) j)), ((r 49), .inl (cI, 22, .inl f49)), ((r 50), .inl (cI, 22, .inl f50)), ((r 51), .inl (cI, 22, .inl f51)), ((r 52), .inl (cI, 22, .inl f52))] := hD
  refine lv_aload_n hx hb dX7_maySay_5 rfl (lv_at hl 0 rfl) ?_
  refine lv_iload_n hx hb dX7_maySay_6 rfl (lv_at hl 2 rfl) ?_
  refine k_ci (wc := [(h, .inr (7, oM r (upd (upd (upd (upd i 62 (f49 x1.toNatClampNeg)) 63 (f50 x1.toNatClampNeg)) 64 (f51 x1.toNatClampNeg)) 65 (f52 x1.toNatClampNeg)) j)), ((r 14), .inl (cI, 2, .inl f14)), ((r 15), .inl (cI, 20, .inl f15)), ((r 16), .inl (cI, 20, .inl f16)), ((r 19), .inl (cI, 24, .inl f19)), ((r 20), .inl (cI, 24, .inl f20)), ((r 21), .inl (cI, 24, .inl f21)), ((r 22), .inl (cI, 24, .inl f22)), ((r 26), .inl (cI, 2, .inl f26)), ((r 27), .inl (cI, 2, .inl f27)), ((r 28), .inl (cI, 2, .inl f28)), ((r 29), .inl (cI, 2, .inl f29)), ((r 32), .inl (cI, 3200, .inl f32)), ((r 33), .inl (cI, 3200, .inl f33)), ((r 61), .inl (cJ, 500, .inr (.inl g61)))]) (wr := [((r 49), .inl (cI, 22, .inl f49)), ((r 50), .inl (cI, 22, .inl f50)), ((r 51), .inl (cI, 22, .inl f51)), ((r 52), .inl (cI, 22, .inl f52))]) (fun hPc hDc hFc => va_runV (As := [.int x2]) (rest := []) ⟨hx, hb, hml, hown, hts⟩ (s_X7_whyNot_v0 l dC dI cI cJ cZ cM h r (upd (upd (upd (upd i 62 (f49 x1.toNatClampNeg)) 63 (f50 x1.toNatClampNeg)) 64 (f51 x1.toNatClampNeg)) 65 (f52 x1.toNatClampNeg)) j x2 f14 f15 f16 f19 f20 f21 f22 f26 f27 f28 f29 f32 f33 g61 hx2 (mR_upd 65 (mR_upd 64 (mR_upd 63 (mR_upd 62 hI (show iR _ (loI 62) (hiI 62) from (iR_top _))) (show iR _ (loI 63) (hiI 63) from (iR_top _))) (show iR _ (loI 64) (hiI 64) from (iR_top _))) (show iR _ (loI 65) (hiI 65) from (iR_top _))) hf14 hf15 hf20 hf26 hf27 hf28 hf29 hsg26 hsg28 H.size) (cwV 1 hts gX7_maySay_X7_whyNot rfl rfl rfl (by decide +kernel) ⟨(Nat.le_of_ble_eq_true rfl), (Nat.le_of_ble_eq_true rfl)⟩) (k_pV hPc hDc hK hN hC hS hFc hP (q0 := 14) (ci := 7) rfl rfl) rfl rfl hl.1 rfl (lv_room (Nat.le_of_ble_eq_true rfl)) dX7_maySay_7 ⟨(Nat.le_of_ble_eq_true rfl), (Nat.le_of_ble_eq_true rfl)⟩) hP hD hS hA [14, 0, 1, 2, 3, 4, 5, 6, 7, 8, 9, 10, 11, 12, 13] [15, 16, 17, 18] rfl rfl rfl rfl (by decide) (fun _ => rfl) 0 0 rfl rfl (fun r_7 u_7 H locs hw hP hD hS => ?_)
  obtain ⟨g_7_0, g_7_1, g_7_2⟩ := hw
  have hP : va_P (dC, dI) vwCl [((r 49), .inl (cI, 22, .inl f49)), ((r 50), .inl (cI, 22, .inl f50)), ((r 51), .inl (cI, 22, .inl f51)), ((r 52), .inl (cI, 22, .inl f52)), (h, .inr (7, oM r (upd (upd (upd (upd (upd i 62 (f49 x1.toNatClampNeg)) 63 (f50 x1.toNatClampNeg)) 64 (f51 x1.toNatClampNeg)) 65 (f52 x1.toNatClampNeg)) 66 (u_7.1 0)) j)), ((r 14), .inl (cI, 2, .inl f14)), ((r 15), .inl (cI, 20, .inl f15)), ((r 16), .inl (cI, 20, .inl f16)), ((r 19), .inl (cI, 24, .inl f19)), ((r 20), .inl (cI, 24, .inl f20)), ((r 21), .inl (cI, 24, .inl f21)), ((r 22), .inl (cI, 24, .inl f22)), ((r 26), .inl (cI, 2, .inl f26)), ((r 27), .inl (cI, 2, .inl f27)), ((r 28), .inl (cI, 2, .inl f28)), ((r 29), .inl (cI, 2, .inl f29)), ((r 32), .inl (cI, 3200, .inl f32)), ((r 33), .inl (cI, 3200, .inl f33)), ((r 61), .inl (cJ, 500, .inr (.inl (u_7.2.2.2.1 0))))] H := hP
  have hD : va_D A [((r 49), .inl (cI, 22, .inl f49)), ((r 50), .inl (cI, 22, .inl f50)), ((r 51), .inl (cI, 22, .inl f51)), ((r 52), .inl (cI, 22, .inl f52)), (h, .inr (7, oM r (upd (upd (upd (upd (upd i 62 (f49 x1.toNatClampNeg)) 63 (f50 x1.toNatClampNeg)) 64 (f51 x1.toNatClampNeg)) 65 (f52 x1.toNatClampNeg)) 66 (u_7.1 0)) j)), ((r 14), .inl (cI, 2, .inl f14)), ((r 15), .inl (cI, 20, .inl f15)), ((r 16), .inl (cI, 20, .inl f16)), ((r 19), .inl (cI, 24, .inl f19)), ((r 20), .inl (cI, 24, .inl f20)), ((r 21), .inl (cI, 24, .inl f21)), ((r 22), .inl (cI, 24, .inl f22)), ((r 26), .inl (cI, 2, .inl f26)), ((r 27), .inl (cI, 2, .inl f27)), ((r 28), .inl (cI, 2, .inl f28)), ((r 29), .inl (cI, 2, .inl f29)), ((r 32), .inl (cI, 3200, .inl f32)), ((r 33), .inl (cI, 3200, .inl f33)), ((r 61), .inl (cJ, 500, .inr (.inl (u_7.2.2.2.1 0))))] := hD
  have g_7_2 : r_7 = myf f14 f15 f16 f19 f20 f21 f22 f26 f27 f28 f29 f32 f33 (i 13) (f49 x1.toNatClampNeg) (f50 x1.toNatClampNeg) (f51 x1.toNatClampNeg) (f52 x1.toNatClampNeg) x2 := g_7_2
  refine lv_if_ne (tgt := 17) hx hb dX7_maySay_10 (by decide) (fun c_10 => ?_) (fun c_10 => ?_)
  · have c_10 : ¬ r_7 = 0 := c_10
    have f_17_1 : iR r_7 1 5 := iR_neL c_10 g_7_0 (iR_c (n := 0) (a := 0) (b := 0) (by decide +kernel) (by decide +kernel)) (by decide +kernel)
    refine lv_iconst (v := 0) hx hb dX7_maySay_17 (by decide +kernel) ?_
    exact k_ri B hP hD hS dX7_maySay_18 ((fun k9 => match k9 with | 0 => (u_7.1 0) | _ => 0), (fun _ => 0), (fun _ => (fun _ => 0)), (fun k9 => match k9 with | 0 => (u_7.2.2.2.1 0) | _ => (fun _ => 0)), (fun _ => 0)) [4, 5, 6, 7, 8, 9, 10, 11, 12, 13, 14, 15, 16, 17, 0, 1, 2, 3, 18] rfl rfl rfl (Nat.le_of_ble_eq_true rfl) (Nat.le_of_ble_eq_true rfl) ⟨(show iR 0 0 1 from (iR_c (n := 0) (a := 0) (b := 1) (by decide +kernel) (by decide +kernel))), (show iR (u_7.1 0) (-1) 11 from g_7_1), (show 0 = if myf f14 f15 f16 f19 f20 f21 f22 f26 f27 f28 f29 f32 f33 (i 13) (f49 x1.toNatClampNeg) (f50 x1.toNatClampNeg) (f51 x1.toNatClampNeg) (f52 x1.toNatClampNeg) x2 = 0 then 1 else 0 from (by rw [← g_7_2, if_neg c_10]))⟩
  · have c_10 : r_7 = 0 := c_10
    have f_13_1 : iR r_7 0 0 := iR_eqL c_10 g_7_0 (iR_c (n := 0) (a := 0) (b := 0) (by decide +kernel) (by decide +kernel)) (by decide +kernel)
    refine lv_iconst (v := 1) hx hb dX7_maySay_13 (by decide +kernel) ?_
    refine lv_goto (tgt := 18) hx hb dX7_maySay_14 (by decide) ?_
    exact k_ri B hP hD hS dX7_maySay_18 ((fun k9 => match k9 with | 0 => (u_7.1 0) | _ => 0), (fun _ => 0), (fun _ => (fun _ => 0)), (fun k9 => match k9 with | 0 => (u_7.2.2.2.1 0) | _ => (fun _ => 0)), (fun _ => 0)) [4, 5, 6, 7, 8, 9, 10, 11, 12, 13, 14, 15, 16, 17, 0, 1, 2, 3, 18] rfl rfl rfl (Nat.le_of_ble_eq_true rfl) (Nat.le_of_ble_eq_true rfl) ⟨(show iR 1 0 1 from (iR_c (n := 1) (a := 0) (b := 1) (by decide +kernel) (by decide +kernel))), (show iR (u_7.1 0) (-1) 11 from g_7_1), (show 1 = if myf f14 f15 f16 f19 f20 f21 f22 f26 f27 f28 f29 f32 f33 (i 13) (f49 x1.toNatClampNeg) (f50 x1.toNatClampNeg) (f51 x1.toNatClampNeg) (f52 x1.toNatClampNeg) x2 = 0 then 1 else 0 from (by rw [← g_7_2, if_pos c_10]))⟩
set_option maxHeartbeats 8000000 in
set_option maxRecDepth 100000 in
theorem s_X7_ring_v0 (l : Launch) (dC : Nat → ClassId) (dI : Nat → Nat → Nat) (cI cJ cZ cM : ClassId) (h : Nat) (r : Nat → Nat) (i : Nat → Int32) (j : Nat → Int64) (x1 : Int32) (hx1 : iR x1 0 20) (hI : mR i) : k_Mi l yX7_ring wsX7_ring ({ frames := 1, cells := 0, slots := 0, locals := 40 }) (dC, dI) vwCl (tyy cI cJ cZ cM) [(h, .inr (7, oM r i j))] [.ref h, .int x1] 0 0 (fun (u9 : Unit) => [(h, .inr (7, oM r i j))]) (fun (r9 : Int32) (u9 : Unit) => (iR r9 2 21) ∧ (r9.toInt = 2 + ((i 58).toInt + x1.toInt) % 20)) := by
  refine fun sz => k_enter (cc := cX7_ring) (maxL := 2) (ret := some (.int)) (Qc := fun A => va_Qi (fun (r9 : Int32) (u9 : Unit) => (iR r9 2 21) ∧ (r9.toInt = 2 + ((i 58).toInt + x1.toInt) % 20)) (fun u => k_B (dC, dI) vwCl (tyy cI cJ cZ cM) A ((fun (u9 : Unit) => [(h, .inr (7, oM r i j))]) u)) A) sz (by decide +kernel) rfl (Nat.le_of_ble_eq_true rfl) (fun p e s m args below meth c A ls H locs B hP hD hS hl => ?_)
  obtain ⟨hx, hb, hml, hown, hts, hr, hlk, hnm, hK, hA, hN, hC⟩ := id B
  have hown : s.vm.findClass RX7 = some m.cls := hown
  have hl : lv_has ls 2 [(0, .ref h), (1, .int x1)] := hl
  have w_0 : (Cond.fieldLink RX7 189 "WishSeaModel" "undoFirst" "I").before args s = true := hts _ (List.mem_of_getElem? (i := 1) rfl)
  have hinX7 : ∀ w ∈ u_ws RX7 TX7 92, w ∈ wsX7_ring := fun _ h => List.mem_cons_of_mem _ (List.mem_append_right _ h)
  refine lv_iconst (v := 2) hx hb dX7_ring_0 (by decide +kernel) ?_
  refine lv_aload_n hx hb dX7_ring_1 rfl (lv_at hl 0 rfl) ?_
  have f_2_1 : iR (i 58) 0 19 := hI 58
  refine k_get (D := (dC, dI)) (ci := 7) (v := .int (i 58)) (C := RX7) (T := TX7) (N := 92) hx hb hts hinX7 hown hK hP 0 rfl rfl 58 (by decide) w_0 rfl rfl dX7_ring_2 ?_
  refine lv_iload_n hx hb dX7_ring_5 rfl (lv_at hl 1 rfl) ?_
  refine lv_iadd hx hb dX7_ring_6 ?_
  refine lv_topi (fun y_6 ey_6 => ?_)
  have xy_6 : y_6.toInt = (i 58).toInt + x1.toInt := i_add ey_6 f_2_1 hx1 (by decide +kernel)
  have f_6_2 : iR y_6 0 39 := iR_add ey_6 f_2_1 hx1 (by decide +kernel)
  refine lv_bipush (v := 20) hx hb dX7_ring_7 (by decide +kernel) ?_
  refine lv_irem hx hb dX7_ring_9 (i_nz (iR_c (n := 20) (a := 20) (b := 20) (by decide +kernel) (by decide +kernel)) (by decide +kernel)) ?_
  refine lv_topi (fun y_9 ey_9 => ?_)
  have xy_9 : y_9.toInt = y_6.toInt % 20 := i_rem ey_9 f_6_2 (iR_c (n := 20) (a := 20) (b := 20) (by decide +kernel) (by decide +kernel)) (by decide +kernel)
  have f_9_3 : iR y_9 0 19 := iR_rem ey_9 f_6_2 (iR_c (n := 20) (a := 20) (b := 20) (by decide +kernel) (by decide +kernel)) (by decide +kernel)
  refine lv_iadd hx hb dX7_ring_10 ?_
  refine lv_topi (fun y_10 ey_10 => ?_)
  have xy_10 : y_10.toInt = 2 + y_9.toInt := i_add ey_10 (iR_c (n := 2) (a := 2) (b := 2) (by decide +kernel) (by decide +kernel)) f_9_3 (by decide +kernel)
  have f_10_4 : iR y_10 2 21 := iR_add ey_10 (iR_c (n := 2) (a := 2) (b := 2) (by decide +kernel) (by decide +kernel)) f_9_3 (by decide +kernel)
  exact k_ri B hP hD hS dX7_ring_11 () [0] rfl rfl rfl (Nat.le_of_ble_eq_true rfl) (Nat.le_of_ble_eq_true rfl) ⟨(show iR y_10 2 21 from f_10_4), (show y_10.toInt = 2 + ((i 58).toInt + x1.toInt) % 20 from (by have z := i_rem ey_9 f_6_2 (iR_c (n := 20) (a := 20) (b := 20) (by decide +kernel) (by decide +kernel)) (by decide +kernel); rw [show (20 : Int32).toInt = 20 by decide] at z; omega))⟩
set_option maxHeartbeats 8000000 in
set_option maxRecDepth 100000 in
theorem s_X7_copies_v0 (l : Launch) (dC : Nat → ClassId) (dI : Nat → Nat → Nat) (cI cJ cZ cM : ClassId) (h : Nat) (r : Nat → Nat) (i : Nat → Int32) (j : Nat → Int64) (x1 : Int32) (x2 : Int32) (f49 : Nat → Int32) (f50 : Nat → Int32) (f51 : Nat → Int32) (f52 : Nat → Int32) (f53 : Nat → Int32) (f54 : Nat → Int32) (f55 : Nat → Int32) (f56 : Nat → Int32) (f57 : Nat → Int32) (hx1 : iR x1 0 21) (hx2 : iR x2 0 21) (hI : mR i) (hf49 : aR f49 0 1023) (hf50 : aR f50 0 999) (hf53 : aR f53 0 50) : k_Mv l yX7_copies wsX7_copies ({ frames := 1, cells := 0, slots := 0, locals := 40 }) (dC, dI) vwCl (tyy cI cJ cZ cM) [(h, .inr (7, oM r i j)), ((r 49), .inl (cI, 22, .inl f49)), ((r 50), .inl (cI, 22, .inl f50)), ((r 51), .inl (cI, 22, .inl f51)), ((r 52), .inl (cI, 22, .inl f52)), ((r 53), .inl (cI, 22, .inl f53)), ((r 54), .inl (cI, 1100, .inl f54)), ((r 55), .inl (cI, 1100, .inl f55)), ((r 56), .inl (cI, 1100, .inl f56)), ((r 57), .inl (cI, 1100, .inl f57))] [.ref h, .int x1, .int x2] 0 0 (fun (u9 : SU) => [(h, .inr (7, oM r i j)), ((r 49), .inl (cI, 22, .inl (upd f49 x1.toNatClampNeg (f49 x2.toNatClampNeg)))), ((r 50), .inl (cI, 22, .inl (upd f50 x1.toNatClampNeg (f50 x2.toNatClampNeg)))), ((r 51), .inl (cI, 22, .inl (upd f51 x1.toNatClampNeg (f51 x2.toNatClampNeg)))), ((r 52), .inl (cI, 22, .inl (upd f52 x1.toNatClampNeg (f52 x2.toNatClampNeg)))), ((r 53), .inl (cI, 22, .inl (upd f53 x1.toNatClampNeg (f53 x2.toNatClampNeg)))), ((r 54), .inl (cI, 1100, .inl (u9.2.2.1 0))), ((r 55), .inl (cI, 1100, .inl (u9.2.2.1 1))), ((r 56), .inl (cI, 1100, .inl (u9.2.2.1 2))), ((r 57), .inl (cI, 1100, .inl (u9.2.2.1 3)))]) (fun (u9 : SU) => True) := by
  refine fun sz => k_enter (cc := cX7_copies) (maxL := 4) (ret := none) (Qc := fun A => va_Qv (fun (u9 : SU) => True) (fun u => k_B (dC, dI) vwCl (tyy cI cJ cZ cM) A ((fun (u9 : SU) => [(h, .inr (7, oM r i j)), ((r 49), .inl (cI, 22, .inl (upd f49 x1.toNatClampNeg (f49 x2.toNatClampNeg)))), ((r 50), .inl (cI, 22, .inl (upd f50 x1.toNatClampNeg (f50 x2.toNatClampNeg)))), ((r 51), .inl (cI, 22, .inl (upd f51 x1.toNatClampNeg (f51 x2.toNatClampNeg)))), ((r 52), .inl (cI, 22, .inl (upd f52 x1.toNatClampNeg (f52 x2.toNatClampNeg)))), ((r 53), .inl (cI, 22, .inl (upd f53 x1.toNatClampNeg (f53 x2.toNatClampNeg)))), ((r 54), .inl (cI, 1100, .inl (u9.2.2.1 0))), ((r 55), .inl (cI, 1100, .inl (u9.2.2.1 1))), ((r 56), .inl (cI, 1100, .inl (u9.2.2.1 2))), ((r 57), .inl (cI, 1100, .inl (u9.2.2.1 3)))]) u)) A) sz (by decide +kernel) rfl (Nat.le_of_ble_eq_true rfl) (fun p e s m args below meth c A ls H locs B hP hD hS hl => ?_)
  obtain ⟨hx, hb, hml, hown, hts, hr, hlk, hnm, hK, hA, hN, hC⟩ := id B
  have hown : s.vm.findClass RX7 = some m.cls := hown
  have hl : lv_has ls 4 [(0, .ref h), (1, .int x1), (2, .int x2)] := hl
  have w_0 : (Cond.fieldLink RX7 162 "WishSeaModel" "hadOf" "[I").before args s = true := hts _ (List.mem_of_getElem? (i := 1) rfl)
  have w_1 : (Cond.fieldLink RX7 165 "WishSeaModel" "seaOf" "[I").before args s = true := hts _ (List.mem_of_getElem? (i := 2) rfl)
  have w_2 : (Cond.fieldLink RX7 168 "WishSeaModel" "saidOf" "[I").before args s = true := hts _ (List.mem_of_getElem? (i := 3) rfl)
  have w_3 : (Cond.fieldLink RX7 171 "WishSeaModel" "dayOf" "[I").before args s = true := hts _ (List.mem_of_getElem? (i := 4) rfl)
  have w_4 : (Cond.fieldLink RX7 174 "WishSeaModel" "keptMany" "[I").before args s = true := hts _ (List.mem_of_getElem? (i := 5) rfl)
  have w_5 : (Cond.fieldLink RX7 177 "WishSeaModel" "keptDay" "[I").before args s = true := hts _ (List.mem_of_getElem? (i := 6) rfl)
  have w_6 : (Cond.fieldLink RX7 180 "WishSeaModel" "keptWish" "[I").before args s = true := hts _ (List.mem_of_getElem? (i := 7) rfl)
  have w_7 : (Cond.fieldLink RX7 183 "WishSeaModel" "keptSea" "[I").before args s = true := hts _ (List.mem_of_getElem? (i := 8) rfl)
  have w_8 : (Cond.fieldLink RX7 186 "WishSeaModel" "keptFell" "[I").before args s = true := hts _ (List.mem_of_getElem? (i := 9) rfl)
  have hinX7 : ∀ w ∈ u_ws RX7 TX7 92, w ∈ wsX7_copies := fun _ h => List.mem_cons_of_mem _ (List.mem_append_right _ h)
  refine lv_aload_n hx hb dX7_copies_0 rfl (lv_at hl 0 rfl) ?_
  refine k_get (D := (dC, dI)) (ci := 7) (v := .ref (r 49)) (C := RX7) (T := TX7) (N := 92) hx hb hts hinX7 hown hK hP 0 rfl rfl 49 (by decide) w_0 rfl rfl dX7_copies_1 ?_
  refine lv_iload_n hx hb dX7_copies_4 rfl (lv_at hl 1 rfl) ?_
  refine lv_aload_n hx hb dX7_copies_5 rfl (lv_at hl 0 rfl) ?_
  refine k_get (D := (dC, dI)) (ci := 7) (v := .ref (r 49)) (C := RX7) (T := TX7) (N := 92) hx hb hts hinX7 hown hK hP 0 rfl rfl 49 (by decide) w_0 rfl rfl dX7_copies_6 ?_
  refine lv_iload_n hx hb dX7_copies_9 rfl (lv_at hl 2 rfl) ?_
  refine va_iald hx hb hK hP 1 0 rfl rfl (iR_vp hx2 (by decide +kernel)) dX7_copies_10 ?_
  have f_10_1 : iR (f49 x2.toNatClampNeg) 0 1023 := hf49 _
  refine s_iast (g := (upd f49 x1.toNatClampNeg (f49 x2.toNatClampNeg))) (ws' := [(h, .inr (7, oM r i j)), ((r 49), .inl (cI, 22, .inl (upd f49 x1.toNatClampNeg (f49 x2.toNatClampNeg)))), ((r 50), .inl (cI, 22, .inl f50)), ((r 51), .inl (cI, 22, .inl f51)), ((r 52), .inl (cI, 22, .inl f52)), ((r 53), .inl (cI, 22, .inl f53)), ((r 54), .inl (cI, 1100, .inl f54)), ((r 55), .inl (cI, 1100, .inl f55)), ((r 56), .inl (cI, 1100, .inl f56)), ((r 57), .inl (cI, 1100, .inl f57))]) hx hb hK hP hD hS 1 0 rfl rfl (iR_vp hx1 (by decide +kernel)) rfl rfl dX7_copies_11 (fun H locs hP hD hS => ?_)
  refine lv_aload_n hx hb dX7_copies_12 rfl (lv_at hl 0 rfl) ?_
  refine k_get (D := (dC, dI)) (ci := 7) (v := .ref (r 50)) (C := RX7) (T := TX7) (N := 92) hx hb hts hinX7 hown hK hP 0 rfl rfl 50 (by decide) w_1 rfl rfl dX7_copies_13 ?_
  refine lv_iload_n hx hb dX7_copies_16 rfl (lv_at hl 1 rfl) ?_
  refine lv_aload_n hx hb dX7_copies_17 rfl (lv_at hl 0 rfl) ?_
  refine k_get (D := (dC, dI)) (ci := 7) (v := .ref (r 50)) (C := RX7) (T := TX7) (N := 92) hx hb hts hinX7 hown hK hP 0 rfl rfl 50 (by decide) w_1 rfl rfl dX7_copies_18 ?_
  refine lv_iload_n hx hb dX7_copies_21 rfl (lv_at hl 2 rfl) ?_
  refine va_iald hx hb hK hP 2 0 rfl rfl (iR_vp hx2 (by decide +kernel)) dX7_copies_22 ?_
  have f_22_2 : iR (f50 x2.toNatClampNeg) 0 999 := hf50 _
  refine s_iast (g := (upd f50 x1.toNatClampNeg (f50 x2.toNatClampNeg))) (ws' := [(h, .inr (7, oM r i j)), ((r 49), .inl (cI, 22, .inl (upd f49 x1.toNatClampNeg (f49 x2.toNatClampNeg)))), ((r 50), .inl (cI, 22, .inl (upd f50 x1.toNatClampNeg (f50 x2.toNatClampNeg)))), ((r 51), .inl (cI, 22, .inl f51)), ((r 52), .inl (cI, 22, .inl f52)), ((r 53), .inl (cI, 22, .inl f53)), ((r 54), .inl (cI, 1100, .inl f54)), ((r 55), .inl (cI, 1100, .inl f55)), ((r 56), .inl (cI, 1100, .inl f56)), ((r 57), .inl (cI, 1100, .inl f57))]) hx hb hK hP hD hS 2 0 rfl rfl (iR_vp hx1 (by decide +kernel)) rfl rfl dX7_copies_23 (fun H locs hP hD hS => ?_)
  refine lv_aload_n hx hb dX7_copies_24 rfl (lv_at hl 0 rfl) ?_
  refine k_get (D := (dC, dI)) (ci := 7) (v := .ref (r 51)) (C := RX7) (T := TX7) (N := 92) hx hb hts hinX7 hown hK hP 0 rfl rfl 51 (by decide) w_2 rfl rfl dX7_copies_25 ?_
  refine lv_iload_n hx hb dX7_copies_28 rfl (lv_at hl 1 rfl) ?_
  refine lv_aload_n hx hb dX7_copies_29 rfl (lv_at hl 0 rfl) ?_
  refine k_get (D := (dC, dI)) (ci := 7) (v := .ref (r 51)) (C := RX7) (T := TX7) (N := 92) hx hb hts hinX7 hown hK hP 0 rfl rfl 51 (by decide) w_2 rfl rfl dX7_copies_30 ?_
  refine lv_iload_n hx hb dX7_copies_33 rfl (lv_at hl 2 rfl) ?_
  refine va_iald hx hb hK hP 3 0 rfl rfl (iR_vp hx2 (by decide +kernel)) dX7_copies_34 ?_
  refine s_iast (g := (upd f51 x1.toNatClampNeg (f51 x2.toNatClampNeg))) (ws' := [(h, .inr (7, oM r i j)), ((r 49), .inl (cI, 22, .inl (upd f49 x1.toNatClampNeg (f49 x2.toNatClampNeg)))), ((r 50), .inl (cI, 22, .inl (upd f50 x1.toNatClampNeg (f50 x2.toNatClampNeg)))), ((r 51), .inl (cI, 22, .inl (upd f51 x1.toNatClampNeg (f51 x2.toNatClampNeg)))), ((r 52), .inl (cI, 22, .inl f52)), ((r 53), .inl (cI, 22, .inl f53)), ((r 54), .inl (cI, 1100, .inl f54)), ((r 55), .inl (cI, 1100, .inl f55)), ((r 56), .inl (cI, 1100, .inl f56)), ((r 57), .inl (cI, 1100, .inl f57))]) hx hb hK hP hD hS 3 0 rfl rfl (iR_vp hx1 (by decide +kernel)) rfl rfl dX7_copies_35 (fun H locs hP hD hS => ?_)
  refine lv_aload_n hx hb dX7_copies_36 rfl (lv_at hl 0 rfl) ?_
  refine k_get (D := (dC, dI)) (ci := 7) (v := .ref (r 52)) (C := RX7) (T := TX7) (N := 92) hx hb hts hinX7 hown hK hP 0 rfl rfl 52 (by decide) w_3 rfl rfl dX7_copies_37 ?_
  refine lv_iload_n hx hb dX7_copies_40 rfl (lv_at hl 1 rfl) ?_
  refine lv_aload_n hx hb dX7_copies_41 rfl (lv_at hl 0 rfl) ?_
  refine k_get (D := (dC, dI)) (ci := 7) (v := .ref (r 52)) (C := RX7) (T := TX7) (N := 92) hx hb hts hinX7 hown hK hP 0 rfl rfl 52 (by decide) w_3 rfl rfl dX7_copies_42 ?_
  refine lv_iload_n hx hb dX7_copies_45 rfl (lv_at hl 2 rfl) ?_
  refine va_iald hx hb hK hP 4 0 rfl rfl (iR_vp hx2 (by decide +kernel)) dX7_copies_46 ?_
  refine s_iast (g := (upd f52 x1.toNatClampNeg (f52 x2.toNatClampNeg))) (ws' := [(h, .inr (7, oM r i j)), ((r 49), .inl (cI, 22, .inl (upd f49 x1.toNatClampNeg (f49 x2.toNatClampNeg)))), ((r 50), .inl (cI, 22, .inl (upd f50 x1.toNatClampNeg (f50 x2.toNatClampNeg)))), ((r 51), .inl (cI, 22, .inl (upd f51 x1.toNatClampNeg (f51 x2.toNatClampNeg)))), ((r 52), .inl (cI, 22, .inl (upd f52 x1.toNatClampNeg (f52 x2.toNatClampNeg)))), ((r 53), .inl (cI, 22, .inl f53)), ((r 54), .inl (cI, 1100, .inl f54)), ((r 55), .inl (cI, 1100, .inl f55)), ((r 56), .inl (cI, 1100, .inl f56)), ((r 57), .inl (cI, 1100, .inl f57))]) hx hb hK hP hD hS 4 0 rfl rfl (iR_vp hx1 (by decide +kernel)) rfl rfl dX7_copies_47 (fun H locs hP hD hS => ?_)
  refine lv_aload_n hx hb dX7_copies_48 rfl (lv_at hl 0 rfl) ?_
  refine k_get (D := (dC, dI)) (ci := 7) (v := .ref (r 53)) (C := RX7) (T := TX7) (N := 92) hx hb hts hinX7 hown hK hP 0 rfl rfl 53 (by decide) w_4 rfl rfl dX7_copies_49 ?_
  refine lv_iload_n hx hb dX7_copies_52 rfl (lv_at hl 1 rfl) ?_
  refine lv_aload_n hx hb dX7_copies_53 rfl (lv_at hl 0 rfl) ?_
  refine k_get (D := (dC, dI)) (ci := 7) (v := .ref (r 53)) (C := RX7) (T := TX7) (N := 92) hx hb hts hinX7 hown hK hP 0 rfl rfl 53 (by decide) w_4 rfl rfl dX7_copies_54 ?_
  refine lv_iload_n hx hb dX7_copies_57 rfl (lv_at hl 2 rfl) ?_
  refine va_iald hx hb hK hP 5 0 rfl rfl (iR_vp hx2 (by decide +kernel)) dX7_copies_58 ?_
  have f_58_3 : iR (f53 x2.toNatClampNeg) 0 50 := hf53 _
  refine s_iast (g := (upd f53 x1.toNatClampNeg (f53 x2.toNatClampNeg))) (ws' := [(h, .inr (7, oM r i j)), ((r 49), .inl (cI, 22, .inl (upd f49 x1.toNatClampNeg (f49 x2.toNatClampNeg)))), ((r 50), .inl (cI, 22, .inl (upd f50 x1.toNatClampNeg (f50 x2.toNatClampNeg)))), ((r 51), .inl (cI, 22, .inl (upd f51 x1.toNatClampNeg (f51 x2.toNatClampNeg)))), ((r 52), .inl (cI, 22, .inl (upd f52 x1.toNatClampNeg (f52 x2.toNatClampNeg)))), ((r 53), .inl (cI, 22, .inl (upd f53 x1.toNatClampNeg (f53 x2.toNatClampNeg)))), ((r 54), .inl (cI, 1100, .inl f54)), ((r 55), .inl (cI, 1100, .inl f55)), ((r 56), .inl (cI, 1100, .inl f56)), ((r 57), .inl (cI, 1100, .inl f57))]) hx hb hK hP hD hS 5 0 rfl rfl (iR_vp hx1 (by decide +kernel)) rfl rfl dX7_copies_59 (fun H locs hP hD hS => ?_)
  refine lv_iconst (v := 0) hx hb dX7_copies_60 (by decide +kernel) ?_
  have J_62 : ∀ (n_62 : Nat) (j62_A6 : Nat → Int32) (j62_A7 : Nat → Int32) (j62_A8 : Nat → Int32) (j62_A9 : Nat → Int32) (j62_L3 : Int32) (hj62_L3 : iR j62_L3 0 50) (hm_62 : (50 - j62_L3.toInt).toNat < n_62) (H : Heap) (locs : List Loc) (ls : Array Slot), va_P (dC, dI) vwCl [(h, .inr (7, oM r i j)), ((r 49), .inl (cI, 22, .inl (upd f49 x1.toNatClampNeg (f49 x2.toNatClampNeg)))), ((r 50), .inl (cI, 22, .inl (upd f50 x1.toNatClampNeg (f50 x2.toNatClampNeg)))), ((r 51), .inl (cI, 22, .inl (upd f51 x1.toNatClampNeg (f51 x2.toNatClampNeg)))), ((r 52), .inl (cI, 22, .inl (upd f52 x1.toNatClampNeg (f52 x2.toNatClampNeg)))), ((r 53), .inl (cI, 22, .inl (upd f53 x1.toNatClampNeg (f53 x2.toNatClampNeg)))), ((r 54), .inl (cI, 1100, .inl j62_A6)), ((r 55), .inl (cI, 1100, .inl j62_A7)), ((r 56), .inl (cI, 1100, .inl j62_A8)), ((r 57), .inl (cI, 1100, .inl j62_A9))] H → va_D A [(h, .inr (7, oM r i j)), ((r 49), .inl (cI, 22, .inl (upd f49 x1.toNatClampNeg (f49 x2.toNatClampNeg)))), ((r 50), .inl (cI, 22, .inl (upd f50 x1.toNatClampNeg (f50 x2.toNatClampNeg)))), ((r 51), .inl (cI, 22, .inl (upd f51 x1.toNatClampNeg (f51 x2.toNatClampNeg)))), ((r 52), .inl (cI, 22, .inl (upd f52 x1.toNatClampNeg (f52 x2.toNatClampNeg)))), ((r 53), .inl (cI, 22, .inl (upd f53 x1.toNatClampNeg (f53 x2.toNatClampNeg)))), ((r 54), .inl (cI, 1100, .inl j62_A6)), ((r 55), .inl (cI, 1100, .inl j62_A7)), ((r 56), .inl (cI, 1100, .inl j62_A8)), ((r 57), .inl (cI, 1100, .inl j62_A9))] → va_S A s.heap H locs → lv_has ls 4 [(0, .ref h), (1, .int x1), (2, .int x2), (3, .int j62_L3)] → W p l e ({ frames := 1, cells := 0, slots := 0, locals := 40 }) s m args below meth c H locs 0 0 (MQ below (va_Qv (fun (u9 : SU) => True) (fun u => k_B (dC, dI) vwCl (tyy cI cJ cZ cM) A ((fun (u9 : SU) => [(h, .inr (7, oM r i j)), ((r 49), .inl (cI, 22, .inl (upd f49 x1.toNatClampNeg (f49 x2.toNatClampNeg)))), ((r 50), .inl (cI, 22, .inl (upd f50 x1.toNatClampNeg (f50 x2.toNatClampNeg)))), ((r 51), .inl (cI, 22, .inl (upd f51 x1.toNatClampNeg (f51 x2.toNatClampNeg)))), ((r 52), .inl (cI, 22, .inl (upd f52 x1.toNatClampNeg (f52 x2.toNatClampNeg)))), ((r 53), .inl (cI, 22, .inl (upd f53 x1.toNatClampNeg (f53 x2.toNatClampNeg)))), ((r 54), .inl (cI, 1100, .inl (u9.2.2.1 0))), ((r 55), .inl (cI, 1100, .inl (u9.2.2.1 1))), ((r 56), .inl (cI, 1100, .inl (u9.2.2.1 2))), ((r 57), .inl (cI, 1100, .inl (u9.2.2.1 3)))]) u)) A) args s 0 0 A) (F0 m 62 ls []) := by
    intro n_62
    induction n_62 with
    | zero => intro j62_A6 j62_A7 j62_A8 j62_A9 j62_L3 hj62_L3 hm_62; exact absurd hm_62 (Nat.not_lt_zero _)
    | succ n_62 ih_62 =>
      intro j62_A6 j62_A7 j62_A8 j62_A9 j62_L3 hj62_L3 hm_62 H locs ls hP hD hS hl
      refine lv_iload_n hx hb dX7_copies_62 rfl (lv_at hl 3 rfl) ?_
      refine lv_aload_n hx hb dX7_copies_63 rfl (lv_at hl 0 rfl) ?_
      refine k_get (D := (dC, dI)) (ci := 7) (v := .ref (r 53)) (C := RX7) (T := TX7) (N := 92) hx hb hts hinX7 hown hK hP 0 rfl rfl 53 (by decide) w_4 rfl rfl dX7_copies_64 ?_
      refine lv_iload_n hx hb dX7_copies_67 rfl (lv_at hl 2 rfl) ?_
      refine va_iald hx hb hK hP 5 0 rfl rfl (iR_vp hx2 (by decide +kernel)) dX7_copies_68 ?_
      refine lv_topi (fun y_68 ey_68 => ?_)
      have f_68_1 : iR y_68 0 50 := iR_of ey_68 ((aR_upd _ hf53 f_58_3) _)
      refine lv_icmp_ge (tgt := 166) hx hb dX7_copies_69 (by decide) (fun c_69 => ?_) (fun c_69 => ?_)
      · have c_69 : y_68 ≤ j62_L3 := c_69
        exact k_rv B hP hD hS dX7_copies_166 ((fun _ => 0), (fun _ => 0), (fun k9 => match k9 with | 0 => j62_A6 | 1 => j62_A7 | 2 => j62_A8 | 3 => j62_A9 | _ => (fun _ => 0)), (fun _ => (fun _ => 0)), (fun _ => 0)) [0, 1, 2, 3, 4, 5, 6, 7, 8, 9] rfl rfl (Nat.le_of_ble_eq_true rfl) (Nat.le_of_ble_eq_true rfl) trivial
      · have c_69 : j62_L3 < y_68 := i_nle c_69
        have f_72_2 : iR j62_L3 0 49 := iR_ltL c_69 hj62_L3 f_68_1 (by decide +kernel)
        have f_72_3 : iR y_68 1 50 := iR_ltR c_69 hj62_L3 f_68_1 (by decide +kernel)
        refine lv_aload_n hx hb dX7_copies_72 rfl (lv_at hl 0 rfl) ?_
        refine k_get (D := (dC, dI)) (ci := 7) (v := .ref (r 54)) (C := RX7) (T := TX7) (N := 92) hx hb hts hinX7 hown hK hP 0 rfl rfl 54 (by decide) w_5 rfl rfl dX7_copies_73 ?_
        refine lv_bipush (v := 50) hx hb dX7_copies_76 (by decide +kernel) ?_
        refine lv_iload_n hx hb dX7_copies_78 rfl (lv_at hl 1 rfl) ?_
        refine lv_imul hx hb dX7_copies_79 ?_
        refine lv_topi (fun y_79 ey_79 => ?_)
        have f_79_4 : iR y_79 0 1050 := iR_mul ey_79 (iR_c (n := 50) (a := 50) (b := 50) (by decide +kernel) (by decide +kernel)) hx1 (by decide +kernel)
        refine lv_iload_n hx hb dX7_copies_80 rfl (lv_at hl 3 rfl) ?_
        refine lv_iadd hx hb dX7_copies_81 ?_
        refine lv_topi (fun y_81 ey_81 => ?_)
        have f_81_5 : iR y_81 0 1099 := iR_add ey_81 f_79_4 f_72_2 (by decide +kernel)
        refine lv_aload_n hx hb dX7_copies_82 rfl (lv_at hl 0 rfl) ?_
        refine k_get (D := (dC, dI)) (ci := 7) (v := .ref (r 54)) (C := RX7) (T := TX7) (N := 92) hx hb hts hinX7 hown hK hP 0 rfl rfl 54 (by decide) w_5 rfl rfl dX7_copies_83 ?_
        refine lv_bipush (v := 50) hx hb dX7_copies_86 (by decide +kernel) ?_
        refine lv_iload_n hx hb dX7_copies_88 rfl (lv_at hl 2 rfl) ?_
        refine lv_imul hx hb dX7_copies_89 ?_
        refine lv_topi (fun y_89 ey_89 => ?_)
        have f_89_6 : iR y_89 0 1050 := iR_mul ey_89 (iR_c (n := 50) (a := 50) (b := 50) (by decide +kernel) (by decide +kernel)) hx2 (by decide +kernel)
        refine lv_iload_n hx hb dX7_copies_90 rfl (lv_at hl 3 rfl) ?_
        refine lv_iadd hx hb dX7_copies_91 ?_
        refine lv_topi (fun y_91 ey_91 => ?_)
        have f_91_7 : iR y_91 0 1099 := iR_add ey_91 f_89_6 f_72_2 (by decide +kernel)
        refine va_iald hx hb hK hP 6 0 rfl rfl (iR_vp f_91_7 (by decide +kernel)) dX7_copies_92 ?_
        refine s_iast (g := (upd j62_A6 y_81.toNatClampNeg (j62_A6 y_91.toNatClampNeg))) (ws' := [(h, .inr (7, oM r i j)), ((r 49), .inl (cI, 22, .inl (upd f49 x1.toNatClampNeg (f49 x2.toNatClampNeg)))), ((r 50), .inl (cI, 22, .inl (upd f50 x1.toNatClampNeg (f50 x2.toNatClampNeg)))), ((r 51), .inl (cI, 22, .inl (upd f51 x1.toNatClampNeg (f51 x2.toNatClampNeg)))), ((r 52), .inl (cI, 22, .inl (upd f52 x1.toNatClampNeg (f52 x2.toNatClampNeg)))), ((r 53), .inl (cI, 22, .inl (upd f53 x1.toNatClampNeg (f53 x2.toNatClampNeg)))), ((r 54), .inl (cI, 1100, .inl (upd j62_A6 y_81.toNatClampNeg (j62_A6 y_91.toNatClampNeg)))), ((r 55), .inl (cI, 1100, .inl j62_A7)), ((r 56), .inl (cI, 1100, .inl j62_A8)), ((r 57), .inl (cI, 1100, .inl j62_A9))]) hx hb hK hP hD hS 6 0 rfl rfl (iR_vp f_81_5 (by decide +kernel)) rfl rfl dX7_copies_93 (fun H locs hP hD hS => ?_)
        refine lv_aload_n hx hb dX7_copies_94 rfl (lv_at hl 0 rfl) ?_
        refine k_get (D := (dC, dI)) (ci := 7) (v := .ref (r 55)) (C := RX7) (T := TX7) (N := 92) hx hb hts hinX7 hown hK hP 0 rfl rfl 55 (by decide) w_6 rfl rfl dX7_copies_95 ?_
        refine lv_bipush (v := 50) hx hb dX7_copies_98 (by decide +kernel) ?_
        refine lv_iload_n hx hb dX7_copies_100 rfl (lv_at hl 1 rfl) ?_
        refine lv_imul hx hb dX7_copies_101 ?_
        refine lv_topi (fun y_101 ey_101 => ?_)
        have f_101_8 : iR y_101 0 1050 := iR_mul ey_101 (iR_c (n := 50) (a := 50) (b := 50) (by decide +kernel) (by decide +kernel)) hx1 (by decide +kernel)
        refine lv_iload_n hx hb dX7_copies_102 rfl (lv_at hl 3 rfl) ?_
        refine lv_iadd hx hb dX7_copies_103 ?_
        refine lv_topi (fun y_103 ey_103 => ?_)
        have f_103_9 : iR y_103 0 1099 := iR_add ey_103 f_101_8 f_72_2 (by decide +kernel)
        refine lv_aload_n hx hb dX7_copies_104 rfl (lv_at hl 0 rfl) ?_
        refine k_get (D := (dC, dI)) (ci := 7) (v := .ref (r 55)) (C := RX7) (T := TX7) (N := 92) hx hb hts hinX7 hown hK hP 0 rfl rfl 55 (by decide) w_6 rfl rfl dX7_copies_105 ?_
        refine lv_bipush (v := 50) hx hb dX7_copies_108 (by decide +kernel) ?_
        refine lv_iload_n hx hb dX7_copies_110 rfl (lv_at hl 2 rfl) ?_
        refine lv_imul hx hb dX7_copies_111 ?_
        refine lv_topi (fun y_111 ey_111 => ?_)
        have f_111_10 : iR y_111 0 1050 := iR_mul ey_111 (iR_c (n := 50) (a := 50) (b := 50) (by decide +kernel) (by decide +kernel)) hx2 (by decide +kernel)
        refine lv_iload_n hx hb dX7_copies_112 rfl (lv_at hl 3 rfl) ?_
        refine lv_iadd hx hb dX7_copies_113 ?_
        refine lv_topi (fun y_113 ey_113 => ?_)
        have f_113_11 : iR y_113 0 1099 := iR_add ey_113 f_111_10 f_72_2 (by decide +kernel)
        refine va_iald hx hb hK hP 7 0 rfl rfl (iR_vp f_113_11 (by decide +kernel)) dX7_copies_114 ?_
        refine s_iast (g := (upd j62_A7 y_103.toNatClampNeg (j62_A7 y_113.toNatClampNeg))) (ws' := [(h, .inr (7, oM r i j)), ((r 49), .inl (cI, 22, .inl (upd f49 x1.toNatClampNeg (f49 x2.toNatClampNeg)))), ((r 50), .inl (cI, 22, .inl (upd f50 x1.toNatClampNeg (f50 x2.toNatClampNeg)))), ((r 51), .inl (cI, 22, .inl (upd f51 x1.toNatClampNeg (f51 x2.toNatClampNeg)))), ((r 52), .inl (cI, 22, .inl (upd f52 x1.toNatClampNeg (f52 x2.toNatClampNeg)))), ((r 53), .inl (cI, 22, .inl (upd f53 x1.toNatClampNeg (f53 x2.toNatClampNeg)))), ((r 54), .inl (cI, 1100, .inl (upd j62_A6 y_81.toNatClampNeg (j62_A6 y_91.toNatClampNeg)))), ((r 55), .inl (cI, 1100, .inl (upd j62_A7 y_103.toNatClampNeg (j62_A7 y_113.toNatClampNeg)))), ((r 56), .inl (cI, 1100, .inl j62_A8)), ((r 57), .inl (cI, 1100, .inl j62_A9))]) hx hb hK hP hD hS 7 0 rfl rfl (iR_vp f_103_9 (by decide +kernel)) rfl rfl dX7_copies_115 (fun H locs hP hD hS => ?_)
        refine lv_aload_n hx hb dX7_copies_116 rfl (lv_at hl 0 rfl) ?_
        refine k_get (D := (dC, dI)) (ci := 7) (v := .ref (r 56)) (C := RX7) (T := TX7) (N := 92) hx hb hts hinX7 hown hK hP 0 rfl rfl 56 (by decide) w_7 rfl rfl dX7_copies_117 ?_
        refine lv_bipush (v := 50) hx hb dX7_copies_120 (by decide +kernel) ?_
        refine lv_iload_n hx hb dX7_copies_122 rfl (lv_at hl 1 rfl) ?_
        refine lv_imul hx hb dX7_copies_123 ?_
        refine lv_topi (fun y_123 ey_123 => ?_)
        have f_123_12 : iR y_123 0 1050 := iR_mul ey_123 (iR_c (n := 50) (a := 50) (b := 50) (by decide +kernel) (by decide +kernel)) hx1 (by decide +kernel)
        refine lv_iload_n hx hb dX7_copies_124 rfl (lv_at hl 3 rfl) ?_
        refine lv_iadd hx hb dX7_copies_125 ?_
        refine lv_topi (fun y_125 ey_125 => ?_)
        have f_125_13 : iR y_125 0 1099 := iR_add ey_125 f_123_12 f_72_2 (by decide +kernel)
        refine lv_aload_n hx hb dX7_copies_126 rfl (lv_at hl 0 rfl) ?_
        refine k_get (D := (dC, dI)) (ci := 7) (v := .ref (r 56)) (C := RX7) (T := TX7) (N := 92) hx hb hts hinX7 hown hK hP 0 rfl rfl 56 (by decide) w_7 rfl rfl dX7_copies_127 ?_
        refine lv_bipush (v := 50) hx hb dX7_copies_130 (by decide +kernel) ?_
        refine lv_iload_n hx hb dX7_copies_132 rfl (lv_at hl 2 rfl) ?_
        refine lv_imul hx hb dX7_copies_133 ?_
        refine lv_topi (fun y_133 ey_133 => ?_)
        have f_133_14 : iR y_133 0 1050 := iR_mul ey_133 (iR_c (n := 50) (a := 50) (b := 50) (by decide +kernel) (by decide +kernel)) hx2 (by decide +kernel)
        refine lv_iload_n hx hb dX7_copies_134 rfl (lv_at hl 3 rfl) ?_
        refine lv_iadd hx hb dX7_copies_135 ?_
        refine lv_topi (fun y_135 ey_135 => ?_)
        have f_135_15 : iR y_135 0 1099 := iR_add ey_135 f_133_14 f_72_2 (by decide +kernel)
        refine va_iald hx hb hK hP 8 0 rfl rfl (iR_vp f_135_15 (by decide +kernel)) dX7_copies_136 ?_
        refine s_iast (g := (upd j62_A8 y_125.toNatClampNeg (j62_A8 y_135.toNatClampNeg))) (ws' := [(h, .inr (7, oM r i j)), ((r 49), .inl (cI, 22, .inl (upd f49 x1.toNatClampNeg (f49 x2.toNatClampNeg)))), ((r 50), .inl (cI, 22, .inl (upd f50 x1.toNatClampNeg (f50 x2.toNatClampNeg)))), ((r 51), .inl (cI, 22, .inl (upd f51 x1.toNatClampNeg (f51 x2.toNatClampNeg)))), ((r 52), .inl (cI, 22, .inl (upd f52 x1.toNatClampNeg (f52 x2.toNatClampNeg)))), ((r 53), .inl (cI, 22, .inl (upd f53 x1.toNatClampNeg (f53 x2.toNatClampNeg)))), ((r 54), .inl (cI, 1100, .inl (upd j62_A6 y_81.toNatClampNeg (j62_A6 y_91.toNatClampNeg)))), ((r 55), .inl (cI, 1100, .inl (upd j62_A7 y_103.toNatClampNeg (j62_A7 y_113.toNatClampNeg)))), ((r 56), .inl (cI, 1100, .inl (upd j62_A8 y_125.toNatClampNeg (j62_A8 y_135.toNatClampNeg)))), ((r 57), .inl (cI, 1100, .inl j62_A9))]) hx hb hK hP hD hS 8 0 rfl rfl (iR_vp f_125_13 (by decide +kernel)) rfl rfl dX7_copies_137 (fun H locs hP hD hS => ?_)
        refine lv_aload_n hx hb dX7_copies_138 rfl (lv_at hl 0 rfl) ?_
        refine k_get (D := (dC, dI)) (ci := 7) (v := .ref (r 57)) (C := RX7) (T := TX7) (N := 92) hx hb hts hinX7 hown hK hP 0 rfl rfl 57 (by decide) w_8 rfl rfl dX7_copies_139 ?_
        refine lv_bipush (v := 50) hx hb dX7_copies_142 (by decide +kernel) ?_
        refine lv_iload_n hx hb dX7_copies_144 rfl (lv_at hl 1 rfl) ?_
        refine lv_imul hx hb dX7_copies_145 ?_
        refine lv_topi (fun y_145 ey_145 => ?_)
        have f_145_16 : iR y_145 0 1050 := iR_mul ey_145 (iR_c (n := 50) (a := 50) (b := 50) (by decide +kernel) (by decide +kernel)) hx1 (by decide +kernel)
        refine lv_iload_n hx hb dX7_copies_146 rfl (lv_at hl 3 rfl) ?_
        refine lv_iadd hx hb dX7_copies_147 ?_
        refine lv_topi (fun y_147 ey_147 => ?_)
        have f_147_17 : iR y_147 0 1099 := iR_add ey_147 f_145_16 f_72_2 (by decide +kernel)
        refine lv_aload_n hx hb dX7_copies_148 rfl (lv_at hl 0 rfl) ?_
        refine k_get (D := (dC, dI)) (ci := 7) (v := .ref (r 57)) (C := RX7) (T := TX7) (N := 92) hx hb hts hinX7 hown hK hP 0 rfl rfl 57 (by decide) w_8 rfl rfl dX7_copies_149 ?_
        refine lv_bipush (v := 50) hx hb dX7_copies_152 (by decide +kernel) ?_
        refine lv_iload_n hx hb dX7_copies_154 rfl (lv_at hl 2 rfl) ?_
        refine lv_imul hx hb dX7_copies_155 ?_
        refine lv_topi (fun y_155 ey_155 => ?_)
        have f_155_18 : iR y_155 0 1050 := iR_mul ey_155 (iR_c (n := 50) (a := 50) (b := 50) (by decide +kernel) (by decide +kernel)) hx2 (by decide +kernel)
        refine lv_iload_n hx hb dX7_copies_156 rfl (lv_at hl 3 rfl) ?_
        refine lv_iadd hx hb dX7_copies_157 ?_
        refine lv_topi (fun y_157 ey_157 => ?_)
        have f_157_19 : iR y_157 0 1099 := iR_add ey_157 f_155_18 f_72_2 (by decide +kernel)
        refine va_iald hx hb hK hP 9 0 rfl rfl (iR_vp f_157_19 (by decide +kernel)) dX7_copies_158 ?_
        refine s_iast (g := (upd j62_A9 y_147.toNatClampNeg (j62_A9 y_157.toNatClampNeg))) (ws' := [(h, .inr (7, oM r i j)), ((r 49), .inl (cI, 22, .inl (upd f49 x1.toNatClampNeg (f49 x2.toNatClampNeg)))), ((r 50), .inl (cI, 22, .inl (upd f50 x1.toNatClampNeg (f50 x2.toNatClampNeg)))), ((r 51), .inl (cI, 22, .inl (upd f51 x1.toNatClampNeg (f51 x2.toNatClampNeg)))), ((r 52), .inl (cI, 22, .inl (upd f52 x1.toNatClampNeg (f52 x2.toNatClampNeg)))), ((r 53), .inl (cI, 22, .inl (upd f53 x1.toNatClampNeg (f53 x2.toNatClampNeg)))), ((r 54), .inl (cI, 1100, .inl (upd j62_A6 y_81.toNatClampNeg (j62_A6 y_91.toNatClampNeg)))), ((r 55), .inl (cI, 1100, .inl (upd j62_A7 y_103.toNatClampNeg (j62_A7 y_113.toNatClampNeg)))), ((r 56), .inl (cI, 1100, .inl (upd j62_A8 y_125.toNatClampNeg (j62_A8 y_135.toNatClampNeg)))), ((r 57), .inl (cI, 1100, .inl (upd j62_A9 y_147.toNatClampNeg (j62_A9 y_157.toNatClampNeg))))]) hx hb hK hP hD hS 9 0 rfl rfl (iR_vp f_147_17 (by decide +kernel)) rfl rfl dX7_copies_159 (fun H locs hP hD hS => ?_)
        obtain ⟨y_160, ey_160⟩ : ∃ y : Int32, y = j62_L3 + 1 := ⟨_, rfl⟩
        refine lv_iinc (v := y_160) (lv' := [(3, .int y_160), (0, .ref h), (1, .int x1), (2, .int x2)]) hx hb dX7_copies_160 hl (k := 3) rfl ey_160.symm (by decide) rfl (fun ls hl => ?_)
        have f_160_20 : iR y_160 1 50 := iR_add ey_160 f_72_2 (iR_c (n := 1) (a := 1) (b := 1) (by decide +kernel) (by decide +kernel)) (by decide +kernel)
        refine lv_goto (tgt := 62) hx hb dX7_copies_163 (by decide) ?_
        exact ih_62 (upd j62_A6 y_81.toNatClampNeg (j62_A6 y_91.toNatClampNeg)) (upd j62_A7 y_103.toNatClampNeg (j62_A7 y_113.toNatClampNeg)) (upd j62_A8 y_125.toNatClampNeg (j62_A8 y_135.toNatClampNeg)) (upd j62_A9 y_147.toNatClampNeg (j62_A9 y_157.toNatClampNeg)) y_160 (iR_w f_160_20 (by decide +kernel)) (m_up (B := 50) hm_62 ey_160 f_72_2 (by decide +kernel)) H locs ls hP hD hS (lv_sub hl [1, 2, 3, 0] rfl)
  refine lv_istore_n (lv' := [(3, .int 0), (0, .ref h), (1, .int x1), (2, .int x2)]) hx hb dX7_copies_61 rfl hl (by decide) rfl (fun ls hl => ?_)
  exact J_62 _ f54 f55 f56 f57 0 (iR_c (n := 0) (a := 0) (b := 50) (by decide +kernel) (by decide +kernel)) (Nat.lt_succ_self _) H locs ls hP hD hS (lv_sub hl [1, 2, 3, 0] rfl)
set_option maxHeartbeats 8000000 in
set_option maxRecDepth 100000 in
theorem s_X7_keeps_v0 (l : Launch) (dC : Nat → ClassId) (dI : Nat → Nat → Nat) (cI cJ cZ cM : ClassId) (h : Nat) (r : Nat → Nat) (i : Nat → Int32) (j : Nat → Int64) (f49 : Nat → Int32) (f50 : Nat → Int32) (f51 : Nat → Int32) (f52 : Nat → Int32) (f53 : Nat → Int32) (f54 : Nat → Int32) (f55 : Nat → Int32) (f56 : Nat → Int32) (f57 : Nat → Int32) (hI : mR i) (hf49 : aR f49 0 1023) (hf50 : aR f50 0 999) (hf53 : aR f53 0 50) : k_Mv l yX7_keeps wsX7_keeps ({ frames := 2, cells := 0, slots := 0, locals := 63 }) (dC, dI) vwCl (tyy cI cJ cZ cM) [(h, .inr (7, oM r i j)), ((r 49), .inl (cI, 22, .inl f49)), ((r 50), .inl (cI, 22, .inl f50)), ((r 51), .inl (cI, 22, .inl f51)), ((r 52), .inl (cI, 22, .inl f52)), ((r 53), .inl (cI, 22, .inl f53)), ((r 54), .inl (cI, 1100, .inl f54)), ((r 55), .inl (cI, 1100, .inl f55)), ((r 56), .inl (cI, 1100, .inl f56)), ((r 57), .inl (cI, 1100, .inl f57))] [.ref h] 0 0 (fun (u9 : SU) => [(h, .inr (7, oM r (upd (upd i 58 (u9.1 0)) 59 (u9.1 1)) j)), ((r 49), .inl (cI, 22, .inl (u9.2.2.1 0))), ((r 50), .inl (cI, 22, .inl (u9.2.2.1 1))), ((r 51), .inl (cI, 22, .inl (u9.2.2.1 2))), ((r 52), .inl (cI, 22, .inl (u9.2.2.1 3))), ((r 53), .inl (cI, 22, .inl (u9.2.2.1 4))), ((r 54), .inl (cI, 1100, .inl (u9.2.2.1 5))), ((r 55), .inl (cI, 1100, .inl (u9.2.2.1 6))), ((r 56), .inl (cI, 1100, .inl (u9.2.2.1 7))), ((r 57), .inl (cI, 1100, .inl (u9.2.2.1 8)))]) (fun (u9 : SU) => (iR (u9.1 0) 0 19) ∧ (iR (u9.1 1) 1 20) ∧ (aR (u9.2.2.1 0) 0 1023) ∧ (aR (u9.2.2.1 1) 0 999) ∧ (aR (u9.2.2.1 4) 0 50) ∧ (∀ (T14 : Nat → Int32) (b : Nat), JH T14 f49 b (i 58) (i 59) → JH T14 (u9.2.2.1 0) b (u9.1 0) (u9.1 1))) := by
  refine fun sz => k_enter (cc := cX7_keeps) (maxL := 1) (ret := none) (Qc := fun A => va_Qv (fun (u9 : SU) => (iR (u9.1 0) 0 19) ∧ (iR (u9.1 1) 1 20) ∧ (aR (u9.2.2.1 0) 0 1023) ∧ (aR (u9.2.2.1 1) 0 999) ∧ (aR (u9.2.2.1 4) 0 50) ∧ (∀ (T14 : Nat → Int32) (b : Nat), JH T14 f49 b (i 58) (i 59) → JH T14 (u9.2.2.1 0) b (u9.1 0) (u9.1 1))) (fun u => k_B (dC, dI) vwCl (tyy cI cJ cZ cM) A ((fun (u9 : SU) => [(h, .inr (7, oM r (upd (upd i 58 (u9.1 0)) 59 (u9.1 1)) j)), ((r 49), .inl (cI, 22, .inl (u9.2.2.1 0))), ((r 50), .inl (cI, 22, .inl (u9.2.2.1 1))), ((r 51), .inl (cI, 22, .inl (u9.2.2.1 2))), ((r 52), .inl (cI, 22, .inl (u9.2.2.1 3))), ((r 53), .inl (cI, 22, .inl (u9.2.2.1 4))), ((r 54), .inl (cI, 1100, .inl (u9.2.2.1 5))), ((r 55), .inl (cI, 1100, .inl (u9.2.2.1 6))), ((r 56), .inl (cI, 1100, .inl (u9.2.2.1 7))), ((r 57), .inl (cI, 1100, .inl (u9.2.2.1 8)))]) u)) A) sz (by decide +kernel) rfl (Nat.le_of_ble_eq_true rfl) (fun p e s m args below meth c A ls H locs B hP hD hS hl => ?_)
  obtain ⟨hx, hb, hml, hown, hts, hr, hlk, hnm, hK, hA, hN, hC⟩ := id B
  have hown : s.vm.findClass RX7 = some m.cls := hown
  have hl : lv_has ls 1 [(0, .ref h)] := hl
  have w_0 : (Cond.fieldLink RX7 192 "WishSeaModel" "undos" "I").before args s = true := hts _ (List.mem_of_getElem? (i := 1) rfl)
  have w_1 : (Cond.fieldLink RX7 189 "WishSeaModel" "undoFirst" "I").before args s = true := hts _ (List.mem_of_getElem? (i := 2) rfl)
  have hinX7 : ∀ w ∈ u_ws RX7 TX7 92, w ∈ wsX7_keeps := fun _ h => List.mem_cons_of_mem _ (List.mem_append_right _ h)
  refine lv_aload_n hx hb dX7_keeps_0 rfl (lv_at hl 0 rfl) ?_
  have f_1_1 : iR (i 59) 0 20 := hI 59
  refine k_get (D := (dC, dI)) (ci := 7) (v := .int (i 59)) (C := RX7) (T := TX7) (N := 92) hx hb hts hinX7 hown hK hP 0 rfl rfl 59 (by decide) w_0 rfl rfl dX7_keeps_1 ?_
  refine lv_bipush (v := 20) hx hb dX7_keeps_4 (by decide +kernel) ?_
  refine lv_icmp_ne (tgt := 32) hx hb dX7_keeps_6 (by decide) (fun c_6 => ?_) (fun c_6 => ?_)
  · have c_6 : ¬ (i 59) = 20 := c_6
    have f_32_2 : iR (i 59) 0 19 := iR_neL c_6 f_1_1 (iR_c (n := 20) (a := 20) (b := 20) (by decide +kernel) (by decide +kernel)) (by decide +kernel)
    refine lv_aload_n hx hb dX7_keeps_32 rfl (lv_at hl 0 rfl) ?_
    refine lv_aload_n hx hb dX7_keeps_33 rfl (lv_at hl 0 rfl) ?_
    refine lv_aload_n hx hb dX7_keeps_34 rfl (lv_at hl 0 rfl) ?_
    refine k_get (D := (dC, dI)) (ci := 7) (v := .int (i 59)) (C := RX7) (T := TX7) (N := 92) hx hb hts hinX7 hown hK hP 0 rfl rfl 59 (by decide) w_0 rfl rfl dX7_keeps_35 ?_
    refine k_ci (wc := [(h, .inr (7, oM r i j))]) (wr := [((r 49), .inl (cI, 22, .inl f49)), ((r 50), .inl (cI, 22, .inl f50)), ((r 51), .inl (cI, 22, .inl f51)), ((r 52), .inl (cI, 22, .inl f52)), ((r 53), .inl (cI, 22, .inl f53)), ((r 54), .inl (cI, 1100, .inl f54)), ((r 55), .inl (cI, 1100, .inl f55)), ((r 56), .inl (cI, 1100, .inl f56)), ((r 57), .inl (cI, 1100, .inl f57))]) (fun hPc hDc hFc => va_runV (As := [.int (i 59)]) (rest := [.ref h]) ⟨hx, hb, hml, hown, hts⟩ (s_X7_ring_v0 l dC dI cI cJ cZ cM h r i j (i 59) (iR_w f_32_2 (by decide +kernel)) hI H.size) (cwV 1 hts gX7_keeps_X7_ring rfl rfl rfl (by decide +kernel) ⟨(Nat.le_of_ble_eq_true rfl), (Nat.le_of_ble_eq_true rfl)⟩) (k_pV hPc hDc hK hN hC hS hFc hP (q0 := 0) (ci := 7) rfl rfl) rfl rfl hl.1 rfl (lv_room (Nat.le_of_ble_eq_true rfl)) dX7_keeps_38 ⟨(Nat.le_of_ble_eq_true rfl), (Nat.le_of_ble_eq_true rfl)⟩) hP hD hS hA [0] [1, 2, 3, 4, 5, 6, 7, 8, 9] rfl rfl rfl rfl (by decide) (fun _ => rfl) 0 0 rfl rfl (fun r_38p6 u_38p6 H locs hw hP hD hS => ?_)
    obtain ⟨g_38p6_0, g_38p6_1⟩ := hw
    have hP : va_P (dC, dI) vwCl [((r 49), .inl (cI, 22, .inl f49)), ((r 50), .inl (cI, 22, .inl f50)), ((r 51), .inl (cI, 22, .inl f51)), ((r 52), .inl (cI, 22, .inl f52)), ((r 53), .inl (cI, 22, .inl f53)), ((r 54), .inl (cI, 1100, .inl f54)), ((r 55), .inl (cI, 1100, .inl f55)), ((r 56), .inl (cI, 1100, .inl f56)), ((r 57), .inl (cI, 1100, .inl f57)), (h, .inr (7, oM r i j))] H := hP
    have hD : va_D A [((r 49), .inl (cI, 22, .inl f49)), ((r 50), .inl (cI, 22, .inl f50)), ((r 51), .inl (cI, 22, .inl f51)), ((r 52), .inl (cI, 22, .inl f52)), ((r 53), .inl (cI, 22, .inl f53)), ((r 54), .inl (cI, 1100, .inl f54)), ((r 55), .inl (cI, 1100, .inl f55)), ((r 56), .inl (cI, 1100, .inl f56)), ((r 57), .inl (cI, 1100, .inl f57)), (h, .inr (7, oM r i j))] := hD
    have g_38p6_1 : r_38p6.toInt = 2 + ((i 58).toInt + (i 59).toInt) % 20 := g_38p6_1
    refine lv_iconst (v := 0) hx hb dX7_keeps_41 (by decide +kernel) ?_
    refine k_cv (wc := [(h, .inr (7, oM r i j)), ((r 49), .inl (cI, 22, .inl f49)), ((r 50), .inl (cI, 22, .inl f50)), ((r 51), .inl (cI, 22, .inl f51)), ((r 52), .inl (cI, 22, .inl f52)), ((r 53), .inl (cI, 22, .inl f53)), ((r 54), .inl (cI, 1100, .inl f54)), ((r 55), .inl (cI, 1100, .inl f55)), ((r 56), .inl (cI, 1100, .inl f56)), ((r 57), .inl (cI, 1100, .inl f57))]) (wr := []) (fun hPc hDc hFc => va_runV (As := [.int r_38p6, .int 0]) (rest := []) ⟨hx, hb, hml, hown, hts⟩ (s_X7_copies_v0 l dC dI cI cJ cZ cM h r i j r_38p6 0 f49 f50 f51 f52 f53 f54 f55 f56 f57 (iR_w g_38p6_0 (by decide +kernel)) (iR_c (n := 0) (a := 0) (b := 21) (by decide +kernel) (by decide +kernel)) hI hf49 hf50 hf53 H.size) (cwV 2 hts gX7_keeps_X7_copies rfl rfl rfl (by decide +kernel) ⟨(Nat.le_of_ble_eq_true rfl), (Nat.le_of_ble_eq_true rfl)⟩) (k_pV hPc hDc hK hN hC hS hFc hP (q0 := 9) (ci := 7) rfl rfl) rfl rfl hl.1 rfl (lv_room (Nat.le_of_ble_eq_true rfl)) dX7_keeps_42 ⟨(Nat.le_of_ble_eq_true rfl), (Nat.le_of_ble_eq_true rfl)⟩) hP hD hS hA [9, 0, 1, 2, 3, 4, 5, 6, 7, 8] [] rfl rfl rfl rfl (by decide) (fun _ => rfl) 0 0 rfl rfl (fun u_42p6 H locs hw hP hD hS => ?_)
    have hP : va_P (dC, dI) vwCl [(h, .inr (7, oM r i j)), ((r 49), .inl (cI, 22, .inl (upd f49 r_38p6.toNatClampNeg (f49 0)))), ((r 50), .inl (cI, 22, .inl (upd f50 r_38p6.toNatClampNeg (f50 0)))), ((r 51), .inl (cI, 22, .inl (upd f51 r_38p6.toNatClampNeg (f51 0)))), ((r 52), .inl (cI, 22, .inl (upd f52 r_38p6.toNatClampNeg (f52 0)))), ((r 53), .inl (cI, 22, .inl (upd f53 r_38p6.toNatClampNeg (f53 0)))), ((r 54), .inl (cI, 1100, .inl (u_42p6.2.2.1 0))), ((r 55), .inl (cI, 1100, .inl (u_42p6.2.2.1 1))), ((r 56), .inl (cI, 1100, .inl (u_42p6.2.2.1 2))), ((r 57), .inl (cI, 1100, .inl (u_42p6.2.2.1 3)))] H := hP
    have hD : va_D A [(h, .inr (7, oM r i j)), ((r 49), .inl (cI, 22, .inl (upd f49 r_38p6.toNatClampNeg (f49 0)))), ((r 50), .inl (cI, 22, .inl (upd f50 r_38p6.toNatClampNeg (f50 0)))), ((r 51), .inl (cI, 22, .inl (upd f51 r_38p6.toNatClampNeg (f51 0)))), ((r 52), .inl (cI, 22, .inl (upd f52 r_38p6.toNatClampNeg (f52 0)))), ((r 53), .inl (cI, 22, .inl (upd f53 r_38p6.toNatClampNeg (f53 0)))), ((r 54), .inl (cI, 1100, .inl (u_42p6.2.2.1 0))), ((r 55), .inl (cI, 1100, .inl (u_42p6.2.2.1 1))), ((r 56), .inl (cI, 1100, .inl (u_42p6.2.2.1 2))), ((r 57), .inl (cI, 1100, .inl (u_42p6.2.2.1 3)))] := hD
    refine lv_aload_n hx hb dX7_keeps_45 rfl (lv_at hl 0 rfl) ?_
    refine lv_dup hx hb dX7_keeps_46 rfl ?_
    refine k_get (D := (dC, dI)) (ci := 7) (v := .int (i 59)) (C := RX7) (T := TX7) (N := 92) hx hb hts hinX7 hown hK hP 0 rfl rfl 59 (by decide) w_0 rfl rfl dX7_keeps_47 ?_
    refine lv_iconst (v := 1) hx hb dX7_keeps_50 (by decide +kernel) ?_
    refine lv_iadd hx hb dX7_keeps_51 ?_
    refine lv_topi (fun y_51p6 ey_51p6 => ?_)
    have xy_51p6 : y_51p6.toInt = (i 59).toInt + 1 := i_add ey_51p6 f_32_2 (iR_c (n := 1) (a := 1) (b := 1) (by decide +kernel) (by decide +kernel)) (by decide +kernel)
    have f_51p6_3 : iR y_51p6 1 20 := iR_add ey_51p6 f_32_2 (iR_c (n := 1) (a := 1) (b := 1) (by decide +kernel) (by decide +kernel)) (by decide +kernel)
    refine k_put (D := (dC, dI)) (ci := 7) (v := .int y_51p6) (C := RX7) (T := TX7) (N := 92) (ws' := [(h, .inr (7, oM r (upd i 59 y_51p6) j)), ((r 49), .inl (cI, 22, .inl (upd f49 r_38p6.toNatClampNeg (f49 0)))), ((r 50), .inl (cI, 22, .inl (upd f50 r_38p6.toNatClampNeg (f50 0)))), ((r 51), .inl (cI, 22, .inl (upd f51 r_38p6.toNatClampNeg (f51 0)))), ((r 52), .inl (cI, 22, .inl (upd f52 r_38p6.toNatClampNeg (f52 0)))), ((r 53), .inl (cI, 22, .inl (upd f53 r_38p6.toNatClampNeg (f53 0)))), ((r 54), .inl (cI, 1100, .inl (u_42p6.2.2.1 0))), ((r 55), .inl (cI, 1100, .inl (u_42p6.2.2.1 1))), ((r 56), .inl (cI, 1100, .inl (u_42p6.2.2.1 2))), ((r 57), .inl (cI, 1100, .inl (u_42p6.2.2.1 3)))]) hx hb hts hinX7 tyX7 tyX7_ok nmX7 hown hK hP hD hS 0 rfl rfl 59 (by decide) w_0 rfl rfl rfl rfl (Nat.le_of_ble_eq_true rfl) rfl dX7_keeps_52 (fun H locs hP hD hS => ?_)
    exact k_rv B hP hD hS dX7_keeps_55 ((fun k9 => match k9 with | 0 => (i 58) | 1 => y_51p6 | _ => 0), (fun _ => 0), (fun k9 => match k9 with | 0 => (upd f49 r_38p6.toNatClampNeg (f49 0)) | 1 => (upd f50 r_38p6.toNatClampNeg (f50 0)) | 2 => (upd f51 r_38p6.toNatClampNeg (f51 0)) | 3 => (upd f52 r_38p6.toNatClampNeg (f52 0)) | 4 => (upd f53 r_38p6.toNatClampNeg (f53 0)) | 5 => (u_42p6.2.2.1 0) | 6 => (u_42p6.2.2.1 1) | 7 => (u_42p6.2.2.1 2) | 8 => (u_42p6.2.2.1 3) | _ => (fun _ => 0)), (fun _ => (fun _ => 0)), (fun _ => 0)) [0, 1, 2, 3, 4, 5, 6, 7, 8, 9] rfl rfl (Nat.le_of_ble_eq_true rfl) (Nat.le_of_ble_eq_true rfl) ⟨(show iR (i 58) 0 19 from (hI 58)), (show iR y_51p6 1 20 from f_51p6_3), (show aR (upd f49 r_38p6.toNatClampNeg (f49 0)) 0 1023 from (aR_upd _ hf49 (show iR (f49 0) 0 1023 from hf49 _))), (show aR (upd f50 r_38p6.toNatClampNeg (f50 0)) 0 999 from (aR_upd _ hf50 (show iR (f50 0) 0 999 from hf50 _))), (show aR (upd f53 r_38p6.toNatClampNeg (f53 0)) 0 50 from (aR_upd _ hf53 (show iR (f53 0) 0 50 from hf53 _))), (show ∀ (T14 : Nat → Int32) (b : Nat), JH T14 f49 b (i 58) (i 59) → JH T14 (upd f49 r_38p6.toNatClampNeg (f49 0)) b (i 58) y_51p6 from (fun T14 b hj => (by have er : r_38p6.toNatClampNeg = 2 + ((i 58).toInt.toNat + (i 59).toInt.toNat) % 20 := (by have c0 := iR_cn g_38p6_0 (by decide +kernel); have g9 := g_38p6_1; have q1 : 0 ≤ (i 58).toInt ∧ (i 58).toInt ≤ 19 := (show iR (i 58) 0 19 from hI 58); have q2 : 0 ≤ (i 59).toInt ∧ (i 59).toInt ≤ 19 := f_32_2; omega); exact HU_keep hj.2 hj.1 er (by have q1 : 0 ≤ (i 59).toInt ∧ (i 59).toInt ≤ 19 := f_32_2; omega) (by omega))))⟩
  · have c_6 : (i 59) = 20 := c_6
    have f_9_2 : iR (i 59) 20 20 := iR_eqL c_6 f_1_1 (iR_c (n := 20) (a := 20) (b := 20) (by decide +kernel) (by decide +kernel)) (by decide +kernel)
    refine lv_aload_n hx hb dX7_keeps_9 rfl (lv_at hl 0 rfl) ?_
    refine lv_aload_n hx hb dX7_keeps_10 rfl (lv_at hl 0 rfl) ?_
    have f_11_3 : iR (i 58) 0 19 := hI 58
    refine k_get (D := (dC, dI)) (ci := 7) (v := .int (i 58)) (C := RX7) (T := TX7) (N := 92) hx hb hts hinX7 hown hK hP 0 rfl rfl 58 (by decide) w_1 rfl rfl dX7_keeps_11 ?_
    refine lv_iconst (v := 1) hx hb dX7_keeps_14 (by decide +kernel) ?_
    refine lv_iadd hx hb dX7_keeps_15 ?_
    refine lv_topi (fun y_15 ey_15 => ?_)
    have xy_15 : y_15.toInt = (i 58).toInt + 1 := i_add ey_15 f_11_3 (iR_c (n := 1) (a := 1) (b := 1) (by decide +kernel) (by decide +kernel)) (by decide +kernel)
    have f_15_4 : iR y_15 1 20 := iR_add ey_15 f_11_3 (iR_c (n := 1) (a := 1) (b := 1) (by decide +kernel) (by decide +kernel)) (by decide +kernel)
    refine lv_bipush (v := 20) hx hb dX7_keeps_16 (by decide +kernel) ?_
    refine lv_irem hx hb dX7_keeps_18 (i_nz (iR_c (n := 20) (a := 20) (b := 20) (by decide +kernel) (by decide +kernel)) (by decide +kernel)) ?_
    refine lv_topi (fun y_18 ey_18 => ?_)
    have xy_18 : y_18.toInt = y_15.toInt % 20 := i_rem ey_18 f_15_4 (iR_c (n := 20) (a := 20) (b := 20) (by decide +kernel) (by decide +kernel)) (by decide +kernel)
    have f_18_5 : iR y_18 0 19 := iR_rem ey_18 f_15_4 (iR_c (n := 20) (a := 20) (b := 20) (by decide +kernel) (by decide +kernel)) (by decide +kernel)
    refine k_put (D := (dC, dI)) (ci := 7) (v := .int y_18) (C := RX7) (T := TX7) (N := 92) (ws' := [(h, .inr (7, oM r (upd i 58 y_18) j)), ((r 49), .inl (cI, 22, .inl f49)), ((r 50), .inl (cI, 22, .inl f50)), ((r 51), .inl (cI, 22, .inl f51)), ((r 52), .inl (cI, 22, .inl f52)), ((r 53), .inl (cI, 22, .inl f53)), ((r 54), .inl (cI, 1100, .inl f54)), ((r 55), .inl (cI, 1100, .inl f55)), ((r 56), .inl (cI, 1100, .inl f56)), ((r 57), .inl (cI, 1100, .inl f57))]) hx hb hts hinX7 tyX7 tyX7_ok nmX7 hown hK hP hD hS 0 rfl rfl 58 (by decide) w_1 rfl rfl rfl rfl (Nat.le_of_ble_eq_true rfl) rfl dX7_keeps_19 (fun H locs hP hD hS => ?_)
    refine lv_aload_n hx hb dX7_keeps_22 rfl (lv_at hl 0 rfl) ?_
    refine lv_dup hx hb dX7_keeps_23 rfl ?_
    refine k_get (D := (dC, dI)) (ci := 7) (v := .int (i 59)) (C := RX7) (T := TX7) (N := 92) hx hb hts hinX7 hown hK hP 0 rfl rfl 59 (by decide) w_0 rfl rfl dX7_keeps_24 ?_
    refine lv_iconst (v := 1) hx hb dX7_keeps_27 (by decide +kernel) ?_
    refine lv_isub hx hb dX7_keeps_28 ?_
    refine lv_topi (fun y_28 ey_28 => ?_)
    have xy_28 : y_28.toInt = (i 59).toInt - 1 := i_sub ey_28 f_9_2 (iR_c (n := 1) (a := 1) (b := 1) (by decide +kernel) (by decide +kernel)) (by decide +kernel)
    have f_28_6 : iR y_28 19 19 := iR_sub ey_28 f_9_2 (iR_c (n := 1) (a := 1) (b := 1) (by decide +kernel) (by decide +kernel)) (by decide +kernel)
    refine k_put (D := (dC, dI)) (ci := 7) (v := .int y_28) (C := RX7) (T := TX7) (N := 92) (ws' := [(h, .inr (7, oM r (upd (upd i 58 y_18) 59 y_28) j)), ((r 49), .inl (cI, 22, .inl f49)), ((r 50), .inl (cI, 22, .inl f50)), ((r 51), .inl (cI, 22, .inl f51)), ((r 52), .inl (cI, 22, .inl f52)), ((r 53), .inl (cI, 22, .inl f53)), ((r 54), .inl (cI, 1100, .inl f54)), ((r 55), .inl (cI, 1100, .inl f55)), ((r 56), .inl (cI, 1100, .inl f56)), ((r 57), .inl (cI, 1100, .inl f57))]) hx hb hts hinX7 tyX7 tyX7_ok nmX7 hown hK hP hD hS 0 rfl rfl 59 (by decide) w_0 rfl rfl rfl rfl (Nat.le_of_ble_eq_true rfl) rfl dX7_keeps_29 (fun H locs hP hD hS => ?_)
    refine lv_aload_n hx hb dX7_keeps_32 rfl (lv_at hl 0 rfl) ?_
    refine lv_aload_n hx hb dX7_keeps_33 rfl (lv_at hl 0 rfl) ?_
    refine lv_aload_n hx hb dX7_keeps_34 rfl (lv_at hl 0 rfl) ?_
    refine k_get (D := (dC, dI)) (ci := 7) (v := .int y_28) (C := RX7) (T := TX7) (N := 92) hx hb hts hinX7 hown hK hP 0 rfl rfl 59 (by decide) w_0 rfl rfl dX7_keeps_35 ?_
    refine k_ci (wc := [(h, .inr (7, oM r (upd (upd i 58 y_18) 59 y_28) j))]) (wr := [((r 49), .inl (cI, 22, .inl f49)), ((r 50), .inl (cI, 22, .inl f50)), ((r 51), .inl (cI, 22, .inl f51)), ((r 52), .inl (cI, 22, .inl f52)), ((r 53), .inl (cI, 22, .inl f53)), ((r 54), .inl (cI, 1100, .inl f54)), ((r 55), .inl (cI, 1100, .inl f55)), ((r 56), .inl (cI, 1100, .inl f56)), ((r 57), .inl (cI, 1100, .inl f57))]) (fun hPc hDc hFc => va_runV (As := [.int y_28]) (rest := [.ref h]) ⟨hx, hb, hml, hown, hts⟩ (s_X7_ring_v0 l dC dI cI cJ cZ cM h r (upd (upd i 58 y_18) 59 y_28) j y_28 (iR_w f_28_6 (by decide +kernel)) (mR_upd 59 (mR_upd 58 hI (show iR _ (loI 58) (hiI 58) from f_18_5)) (show iR _ (loI 59) (hiI 59) from (iR_w f_28_6 (by decide +kernel)))) H.size) (cwV 1 hts gX7_keeps_X7_ring rfl rfl rfl (by decide +kernel) ⟨(Nat.le_of_ble_eq_true rfl), (Nat.le_of_ble_eq_true rfl)⟩) (k_pV hPc hDc hK hN hC hS hFc hP (q0 := 0) (ci := 7) rfl rfl) rfl rfl hl.1 rfl (lv_room (Nat.le_of_ble_eq_true rfl)) dX7_keeps_38 ⟨(Nat.le_of_ble_eq_true rfl), (Nat.le_of_ble_eq_true rfl)⟩) hP hD hS hA [0] [1, 2, 3, 4, 5, 6, 7, 8, 9] rfl rfl rfl rfl (by decide) (fun _ => rfl) 0 0 rfl rfl (fun r_38p29 u_38p29 H locs hw hP hD hS => ?_)
    obtain ⟨g_38p29_0, g_38p29_1⟩ := hw
    have hP : va_P (dC, dI) vwCl [((r 49), .inl (cI, 22, .inl f49)), ((r 50), .inl (cI, 22, .inl f50)), ((r 51), .inl (cI, 22, .inl f51)), ((r 52), .inl (cI, 22, .inl f52)), ((r 53), .inl (cI, 22, .inl f53)), ((r 54), .inl (cI, 1100, .inl f54)), ((r 55), .inl (cI, 1100, .inl f55)), ((r 56), .inl (cI, 1100, .inl f56)), ((r 57), .inl (cI, 1100, .inl f57)), (h, .inr (7, oM r (upd (upd i 58 y_18) 59 y_28) j))] H := hP
    have hD : va_D A [((r 49), .inl (cI, 22, .inl f49)), ((r 50), .inl (cI, 22, .inl f50)), ((r 51), .inl (cI, 22, .inl f51)), ((r 52), .inl (cI, 22, .inl f52)), ((r 53), .inl (cI, 22, .inl f53)), ((r 54), .inl (cI, 1100, .inl f54)), ((r 55), .inl (cI, 1100, .inl f55)), ((r 56), .inl (cI, 1100, .inl f56)), ((r 57), .inl (cI, 1100, .inl f57)), (h, .inr (7, oM r (upd (upd i 58 y_18) 59 y_28) j))] := hD
    have g_38p29_1 : r_38p29.toInt = 2 + (y_18.toInt + y_28.toInt) % 20 := g_38p29_1
    refine lv_iconst (v := 0) hx hb dX7_keeps_41 (by decide +kernel) ?_
    refine k_cv (wc := [(h, .inr (7, oM r (upd (upd i 58 y_18) 59 y_28) j)), ((r 49), .inl (cI, 22, .inl f49)), ((r 50), .inl (cI, 22, .inl f50)), ((r 51), .inl (cI, 22, .inl f51)), ((r 52), .inl (cI, 22, .inl f52)), ((r 53), .inl (cI, 22, .inl f53)), ((r 54), .inl (cI, 1100, .inl f54)), ((r 55), .inl (cI, 1100, .inl f55)), ((r 56), .inl (cI, 1100, .inl f56)), ((r 57), .inl (cI, 1100, .inl f57))]) (wr := []) (fun hPc hDc hFc => va_runV (As := [.int r_38p29, .int 0]) (rest := []) ⟨hx, hb, hml, hown, hts⟩ (s_X7_copies_v0 l dC dI cI cJ cZ cM h r (upd (upd i 58 y_18) 59 y_28) j r_38p29 0 f49 f50 f51 f52 f53 f54 f55 f56 f57 (iR_w g_38p29_0 (by decide +kernel)) (iR_c (n := 0) (a := 0) (b := 21) (by decide +kernel) (by decide +kernel)) (mR_upd 59 (mR_upd 58 hI (show iR _ (loI 58) (hiI 58) from f_18_5)) (show iR _ (loI 59) (hiI 59) from (iR_w f_28_6 (by decide +kernel)))) hf49 hf50 hf53 H.size) (cwV 2 hts gX7_keeps_X7_copies rfl rfl rfl (by decide +kernel) ⟨(Nat.le_of_ble_eq_true rfl), (Nat.le_of_ble_eq_true rfl)⟩) (k_pV hPc hDc hK hN hC hS hFc hP (q0 := 9) (ci := 7) rfl rfl) rfl rfl hl.1 rfl (lv_room (Nat.le_of_ble_eq_true rfl)) dX7_keeps_42 ⟨(Nat.le_of_ble_eq_true rfl), (Nat.le_of_ble_eq_true rfl)⟩) hP hD hS hA [9, 0, 1, 2, 3, 4, 5, 6, 7, 8] [] rfl rfl rfl rfl (by decide) (fun _ => rfl) 0 0 rfl rfl (fun u_42p29 H locs hw hP hD hS => ?_)
    have hP : va_P (dC, dI) vwCl [(h, .inr (7, oM r (upd (upd i 58 y_18) 59 y_28) j)), ((r 49), .inl (cI, 22, .inl (upd f49 r_38p29.toNatClampNeg (f49 0)))), ((r 50), .inl (cI, 22, .inl (upd f50 r_38p29.toNatClampNeg (f50 0)))), ((r 51), .inl (cI, 22, .inl (upd f51 r_38p29.toNatClampNeg (f51 0)))), ((r 52), .inl (cI, 22, .inl (upd f52 r_38p29.toNatClampNeg (f52 0)))), ((r 53), .inl (cI, 22, .inl (upd f53 r_38p29.toNatClampNeg (f53 0)))), ((r 54), .inl (cI, 1100, .inl (u_42p29.2.2.1 0))), ((r 55), .inl (cI, 1100, .inl (u_42p29.2.2.1 1))), ((r 56), .inl (cI, 1100, .inl (u_42p29.2.2.1 2))), ((r 57), .inl (cI, 1100, .inl (u_42p29.2.2.1 3)))] H := hP
    have hD : va_D A [(h, .inr (7, oM r (upd (upd i 58 y_18) 59 y_28) j)), ((r 49), .inl (cI, 22, .inl (upd f49 r_38p29.toNatClampNeg (f49 0)))), ((r 50), .inl (cI, 22, .inl (upd f50 r_38p29.toNatClampNeg (f50 0)))), ((r 51), .inl (cI, 22, .inl (upd f51 r_38p29.toNatClampNeg (f51 0)))), ((r 52), .inl (cI, 22, .inl (upd f52 r_38p29.toNatClampNeg (f52 0)))), ((r 53), .inl (cI, 22, .inl (upd f53 r_38p29.toNatClampNeg (f53 0)))), ((r 54), .inl (cI, 1100, .inl (u_42p29.2.2.1 0))), ((r 55), .inl (cI, 1100, .inl (u_42p29.2.2.1 1))), ((r 56), .inl (cI, 1100, .inl (u_42p29.2.2.1 2))), ((r 57), .inl (cI, 1100, .inl (u_42p29.2.2.1 3)))] := hD
    refine lv_aload_n hx hb dX7_keeps_45 rfl (lv_at hl 0 rfl) ?_
    refine lv_dup hx hb dX7_keeps_46 rfl ?_
    refine k_get (D := (dC, dI)) (ci := 7) (v := .int y_28) (C := RX7) (T := TX7) (N := 92) hx hb hts hinX7 hown hK hP 0 rfl rfl 59 (by decide) w_0 rfl rfl dX7_keeps_47 ?_
    refine lv_iconst (v := 1) hx hb dX7_keeps_50 (by decide +kernel) ?_
    refine lv_iadd hx hb dX7_keeps_51 ?_
    refine lv_topi (fun y_51p29 ey_51p29 => ?_)
    have xy_51p29 : y_51p29.toInt = y_28.toInt + 1 := i_add ey_51p29 f_28_6 (iR_c (n := 1) (a := 1) (b := 1) (by decide +kernel) (by decide +kernel)) (by decide +kernel)
    have f_51p29_7 : iR y_51p29 20 20 := iR_add ey_51p29 f_28_6 (iR_c (n := 1) (a := 1) (b := 1) (by decide +kernel) (by decide +kernel)) (by decide +kernel)
    refine k_put (D := (dC, dI)) (ci := 7) (v := .int y_51p29) (C := RX7) (T := TX7) (N := 92) (ws' := [(h, .inr (7, oM r (upd (upd i 58 y_18) 59 y_51p29) j)), ((r 49), .inl (cI, 22, .inl (upd f49 r_38p29.toNatClampNeg (f49 0)))), ((r 50), .inl (cI, 22, .inl (upd f50 r_38p29.toNatClampNeg (f50 0)))), ((r 51), .inl (cI, 22, .inl (upd f51 r_38p29.toNatClampNeg (f51 0)))), ((r 52), .inl (cI, 22, .inl (upd f52 r_38p29.toNatClampNeg (f52 0)))), ((r 53), .inl (cI, 22, .inl (upd f53 r_38p29.toNatClampNeg (f53 0)))), ((r 54), .inl (cI, 1100, .inl (u_42p29.2.2.1 0))), ((r 55), .inl (cI, 1100, .inl (u_42p29.2.2.1 1))), ((r 56), .inl (cI, 1100, .inl (u_42p29.2.2.1 2))), ((r 57), .inl (cI, 1100, .inl (u_42p29.2.2.1 3)))]) hx hb hts hinX7 tyX7 tyX7_ok nmX7 hown hK hP hD hS 0 rfl rfl 59 (by decide) w_0 rfl rfl rfl rfl (Nat.le_of_ble_eq_true rfl) rfl dX7_keeps_52 (fun H locs hP hD hS => ?_)
    exact k_rv B hP hD hS dX7_keeps_55 ((fun k9 => match k9 with | 0 => y_18 | 1 => y_51p29 | _ => 0), (fun _ => 0), (fun k9 => match k9 with | 0 => (upd f49 r_38p29.toNatClampNeg (f49 0)) | 1 => (upd f50 r_38p29.toNatClampNeg (f50 0)) | 2 => (upd f51 r_38p29.toNatClampNeg (f51 0)) | 3 => (upd f52 r_38p29.toNatClampNeg (f52 0)) | 4 => (upd f53 r_38p29.toNatClampNeg (f53 0)) | 5 => (u_42p29.2.2.1 0) | 6 => (u_42p29.2.2.1 1) | 7 => (u_42p29.2.2.1 2) | 8 => (u_42p29.2.2.1 3) | _ => (fun _ => 0)), (fun _ => (fun _ => 0)), (fun _ => 0)) [0, 1, 2, 3, 4, 5, 6, 7, 8, 9] rfl rfl (Nat.le_of_ble_eq_true rfl) (Nat.le_of_ble_eq_true rfl) ⟨(show iR y_18 0 19 from f_18_5), (show iR y_51p29 1 20 from (iR_w f_51p29_7 (by decide +kernel))), (show aR (upd f49 r_38p29.toNatClampNeg (f49 0)) 0 1023 from (aR_upd _ hf49 (show iR (f49 0) 0 1023 from hf49 _))), (show aR (upd f50 r_38p29.toNatClampNeg (f50 0)) 0 999 from (aR_upd _ hf50 (show iR (f50 0) 0 999 from hf50 _))), (show aR (upd f53 r_38p29.toNatClampNeg (f53 0)) 0 50 from (aR_upd _ hf53 (show iR (f53 0) 0 50 from hf53 _))), (show ∀ (T14 : Nat → Int32) (b : Nat), JH T14 f49 b (i 58) (i 59) → JH T14 (upd f49 r_38p29.toNatClampNeg (f49 0)) b y_18 y_51p29 from (fun T14 b hj => (by have er : r_38p29.toNatClampNeg = 2 + (y_18.toInt.toNat + y_28.toInt.toNat) % 20 := (by have c0 := iR_cn g_38p29_0 (by decide +kernel); have g9 := g_38p29_1; have q1 : 0 ≤ y_18.toInt ∧ y_18.toInt ≤ 19 := f_18_5; have q2 : 19 ≤ y_28.toInt ∧ y_28.toInt ≤ 19 := f_28_6; omega); have z := i_rem ey_18 f_15_4 (iR_c (n := 20) (a := 20) (b := 20) (by decide +kernel) (by decide +kernel)) (by decide +kernel); rw [show (20 : Int32).toInt = 20 by decide] at z; have q3 : 0 ≤ (i 58).toInt ∧ (i 58).toInt ≤ 19 := f_11_3; have z3 : (i 59).toInt = 20 := i_ti_eq rfl (by decide) c_6; have hs := HU_shift (uf' := y_18) (un' := y_28) hj.2 z3 (by omega) (by omega) (by omega); exact HU_keep hs hj.1 er (by have q1 : 19 ≤ y_28.toInt ∧ y_28.toInt ≤ 19 := f_28_6; omega) (by omega))))⟩
set_option maxHeartbeats 8000000 in
set_option maxRecDepth 100000 in
theorem s_X7_behind_v0 (l : Launch) (dC : Nat → ClassId) (dI : Nat → Nat → Nat) (cI cJ cZ cM : ClassId) (h : Nat) (r : Nat → Nat) (i : Nat → Int32) (j : Nat → Int64) (x1 : Int32) (x2 : Int32) (f20 : Nat → Int32) (f22 : Nat → Int32) (hx1 : iR x1 0 1023) (hx2 : iR x2 0 11) (hI : mR i) (hf20 : aR f20 0 9) : k_Mi l yX7_behind wsX7_behind ({ frames := 2, cells := 0, slots := 0, locals := 61 }) (dC, dI) vwCl (tyy cI cJ cZ cM) [(h, .inr (7, oM r i j)), ((r 20), .inl (cI, 24, .inl f20)), ((r 22), .inl (cI, 24, .inl f22))] [.ref h, .int x1, .int x2] 0 0 (fun (u9 : Unit) => [(h, .inr (7, oM r i j)), ((r 20), .inl (cI, 24, .inl f20)), ((r 22), .inl (cI, 24, .inl f22))]) (fun (r9 : Int32) (u9 : Unit) => (iR r9 0 1023) ∧ (∀ T14 T18 T23 : Nat → Int32, aR T14 0 10 → HB T14 T18 f20 T23 (i 13).toNatClampNeg → ((x2.toNatClampNeg : Nat) : Int) < (T18 (i 13).toNatClampNeg).toInt → x1.toInt < 2 ^ (T14 (i 13).toNatClampNeg).toInt.toNat → r9.toInt < 2 ^ (T14 (i 13).toNatClampNeg).toInt.toNat)) := by
  refine fun sz => k_enter (cc := cX7_behind) (maxL := 3) (ret := some (.int)) (Qc := fun A => va_Qi (fun (r9 : Int32) (u9 : Unit) => (iR r9 0 1023) ∧ (∀ T14 T18 T23 : Nat → Int32, aR T14 0 10 → HB T14 T18 f20 T23 (i 13).toNatClampNeg → ((x2.toNatClampNeg : Nat) : Int) < (T18 (i 13).toNatClampNeg).toInt → x1.toInt < 2 ^ (T14 (i 13).toNatClampNeg).toInt.toNat → r9.toInt < 2 ^ (T14 (i 13).toNatClampNeg).toInt.toNat)) (fun u => k_B (dC, dI) vwCl (tyy cI cJ cZ cM) A ((fun (u9 : Unit) => [(h, .inr (7, oM r i j)), ((r 20), .inl (cI, 24, .inl f20)), ((r 22), .inl (cI, 24, .inl f22))]) u)) A) sz (by decide +kernel) rfl (Nat.le_of_ble_eq_true rfl) (fun p e s m args below meth c A ls H locs B hP hD hS hl => ?_)
  obtain ⟨hx, hb, hml, hown, hts, hr, hlk, hnm, hK, hA, hN, hC⟩ := id B
  have hown : s.vm.findClass RX7 = some m.cls := hown
  have hl : lv_has ls 3 [(0, .ref h), (1, .int x1), (2, .int x2)] := hl
  have w_0 : (Cond.fieldLink RX7 78 "WishSeaModel" "wishUses" "[I").before args s = true := hts _ (List.mem_of_getElem? (i := 1) rfl)
  have w_1 : (Cond.fieldLink RX7 51 "WishSeaModel" "bank" "I").before args s = true := hts _ (List.mem_of_getElem? (i := 2) rfl)
  have hinX7 : ∀ w ∈ u_ws RX7 TX7 92, w ∈ wsX7_behind := fun _ h => List.mem_cons_of_mem _ (List.mem_append_right _ h)
  refine lv_iload_n hx hb dX7_behind_0 rfl (lv_at hl 1 rfl) ?_
  refine lv_aload_n hx hb dX7_behind_1 rfl (lv_at hl 0 rfl) ?_
  refine k_get (D := (dC, dI)) (ci := 7) (v := .ref (r 22)) (C := RX7) (T := TX7) (N := 92) hx hb hts hinX7 hown hK hP 0 rfl rfl 22 (by decide) w_0 rfl rfl dX7_behind_2 ?_
  refine lv_bipush (v := 12) hx hb dX7_behind_5 (by decide +kernel) ?_
  refine lv_aload_n hx hb dX7_behind_7 rfl (lv_at hl 0 rfl) ?_
  have f_8_1 : iR (i 13) 0 1 := hI 13
  refine k_get (D := (dC, dI)) (ci := 7) (v := .int (i 13)) (C := RX7) (T := TX7) (N := 92) hx hb hts hinX7 hown hK hP 0 rfl rfl 13 (by decide) w_1 rfl rfl dX7_behind_8 ?_
  refine lv_imul hx hb dX7_behind_11 ?_
  refine lv_topi (fun y_11 ey_11 => ?_)
  have f_11_2 : iR y_11 0 12 := iR_mul ey_11 (iR_c (n := 12) (a := 12) (b := 12) (by decide +kernel) (by decide +kernel)) f_8_1 (by decide +kernel)
  refine lv_iload_n hx hb dX7_behind_12 rfl (lv_at hl 2 rfl) ?_
  refine lv_iadd hx hb dX7_behind_13 ?_
  refine lv_topi (fun y_13 ey_13 => ?_)
  have f_13_3 : iR y_13 0 23 := iR_add ey_13 f_11_2 hx2 (by decide +kernel)
  refine va_iald hx hb hK hP 2 0 rfl rfl (iR_vp f_13_3 (by decide +kernel)) dX7_behind_14 ?_
  refine lv_iconst (v := (-1)) hx hb dX7_behind_15 (by decide +kernel) ?_
  refine lv_ixor hx hb dX7_behind_16 ?_
  refine lv_topi (fun y_16 ey_16 => ?_)
  refine lv_iand hx hb dX7_behind_17 ?_
  refine lv_topi (fun y_17 ey_17 => ?_)
  have f_17_4 : iR y_17 0 1023 := iR_andL ey_17 hx1 (by decide +kernel)
  refine lv_iconst (v := 1) hx hb dX7_behind_18 (by decide +kernel) ?_
  refine lv_aload_n hx hb dX7_behind_19 rfl (lv_at hl 0 rfl) ?_
  refine lv_iload_n hx hb dX7_behind_20 rfl (lv_at hl 2 rfl) ?_
  refine k_ci (wc := [(h, .inr (7, oM r i j)), ((r 20), .inl (cI, 24, .inl f20))]) (wr := [((r 22), .inl (cI, 24, .inl f22))]) (fun hPc hDc hFc => va_runV (As := [.int x2]) (rest := [.int 1, .int y_17]) ⟨hx, hb, hml, hown, hts⟩ (s_X7_givesOf_v0 l dC dI cI cJ cZ cM h r i j x2 f20 hx2 hI hf20 H.size) (cwV 1 hts gX7_behind_X7_givesOf rfl rfl rfl (by decide +kernel) ⟨(Nat.le_of_ble_eq_true rfl), (Nat.le_of_ble_eq_true rfl)⟩) (k_pV hPc hDc hK hN hC hS hFc hP (q0 := 0) (ci := 7) rfl rfl) rfl rfl hl.1 rfl (lv_room (Nat.le_of_ble_eq_true rfl)) dX7_behind_21 ⟨(Nat.le_of_ble_eq_true rfl), (Nat.le_of_ble_eq_true rfl)⟩) hP hD hS hA [0, 1] [2] rfl rfl rfl rfl (by decide) (fun _ => rfl) 0 0 rfl rfl (fun r_21 u_21 H locs hw hP hD hS => ?_)
  obtain ⟨g_21_0, g_21_1⟩ := hw
  have hP : va_P (dC, dI) vwCl [((r 22), .inl (cI, 24, .inl f22)), (h, .inr (7, oM r i j)), ((r 20), .inl (cI, 24, .inl f20))] H := hP
  have hD : va_D A [((r 22), .inl (cI, 24, .inl f22)), (h, .inr (7, oM r i j)), ((r 20), .inl (cI, 24, .inl f20))] := hD
  have g_21_1 : r_21 = f20 (12 * (i 13).toNatClampNeg + x2.toNatClampNeg) := g_21_1
  refine lv_ishl hx hb dX7_behind_24 ?_
  refine lv_topi (fun y_24 ey_24 => ?_)
  have f_24_5 : iR y_24 1 512 := iR_shl 9 ey_24 (iR_c (n := 1) (a := 1) (b := 1) (by decide +kernel) (by decide +kernel)) g_21_0 (by decide +kernel)
  refine lv_ior hx hb dX7_behind_25 ?_
  refine lv_topi (fun y_25 ey_25 => ?_)
  have f_25_6 : iR y_25 0 1023 := iR_or 10 ey_25 f_17_4 f_24_5 (by decide +kernel)
  exact k_ri B hP hD hS dX7_behind_26 () [1, 2, 0] rfl rfl rfl (Nat.le_of_ble_eq_true rfl) (Nat.le_of_ble_eq_true rfl) ⟨(show iR y_25 0 1023 from f_25_6), (show ∀ T14 T18 T23 : Nat → Int32, aR T14 0 10 → HB T14 T18 f20 T23 (i 13).toNatClampNeg → ((x2.toNatClampNeg : Nat) : Int) < (T18 (i 13).toNatClampNeg).toInt → x1.toInt < 2 ^ (T14 (i 13).toNatClampNeg).toInt.toNat → y_25.toInt < 2 ^ (T14 (i 13).toNatClampNeg).toInt.toNat from (fun T14 T18 T23 h14 hb hw hv => bh_lt ey_17 ey_24 ey_25 (show (0:Int) ≤ x1.toInt from (hx1).1) g_21_1 hf20 h14 hb hw hv))⟩
set_option maxHeartbeats 8000000 in
set_option maxRecDepth 100000 in
theorem s_X7_goes_v0 (l : Launch) (dC : Nat → ClassId) (dI : Nat → Nat → Nat) (cI cJ cZ cM : ClassId) (h : Nat) (r : Nat → Nat) (i : Nat → Int32) (j : Nat → Int64) (x1 : Int32) (x2 : Int32) (f14 : Nat → Int32) (f15 : Nat → Int32) (f16 : Nat → Int32) (f19 : Nat → Int32) (f20 : Nat → Int32) (f22 : Nat → Int32) (f23 : Nat → Int32) (f24 : Nat → Int32) (f25 : Nat → Int32) (f30 : Nat → Int32) (f32 : Nat → Int32) (f33 : Nat → Int32) (f49 : Nat → Int32) (f50 : Nat → Int32) (f51 : Nat → Int32) (f52 : Nat → Int32) (g61 : Nat → Int64) (hx1 : iR x1 0 21) (hx2 : iR x2 0 11) (hI : mR i) (hf14 : aR f14 0 10) (hf15 : aR f15 0 9999) (hf20 : aR f20 0 9) (hf23 : aR f23 0 1023) (hf24 : aR f24 (-1) 1600) (hf25 : aR f25 0 1600) (hf30 : aR f30 0 999) (hf49 : aR f49 0 1023) (hf50 : aR f50 0 999) (hsg24 : SEG f24 f25 f32 (i 13).toNatClampNeg 1600) : k_Mi l yX7_goes wsX7_goes ({ frames := 6, cells := 0, slots := 0, locals := 152 }) (dC, dI) vwCl (tyy cI cJ cZ cM) [(h, .inr (7, oM r i j)), ((r 14), .inl (cI, 2, .inl f14)), ((r 15), .inl (cI, 20, .inl f15)), ((r 16), .inl (cI, 20, .inl f16)), ((r 19), .inl (cI, 24, .inl f19)), ((r 20), .inl (cI, 24, .inl f20)), ((r 22), .inl (cI, 24, .inl f22)), ((r 23), .inl (cI, 2, .inl f23)), ((r 24), .inl (cI, 2, .inl f24)), ((r 25), .inl (cI, 2, .inl f25)), ((r 30), .inl (cI, 2, .inl f30)), ((r 32), .inl (cI, 3200, .inl f32)), ((r 33), .inl (cI, 3200, .inl f33)), ((r 49), .inl (cI, 22, .inl f49)), ((r 50), .inl (cI, 22, .inl f50)), ((r 51), .inl (cI, 22, .inl f51)), ((r 52), .inl (cI, 22, .inl f52)), ((r 61), .inl (cJ, 500, .inr (.inl g61)))] [.ref h, .int x1, .int x2] 0 0 (fun (u9 : SU) => [(h, .inr (7, oM r (upd (upd (upd (upd (upd i 62 (f49 x1.toNatClampNeg)) 63 (f50 x1.toNatClampNeg)) 64 (f51 x1.toNatClampNeg)) 65 (f52 x1.toNatClampNeg)) 66 x2) j)), ((r 14), .inl (cI, 2, .inl f14)), ((r 15), .inl (cI, 20, .inl f15)), ((r 16), .inl (cI, 20, .inl f16)), ((r 19), .inl (cI, 24, .inl f19)), ((r 20), .inl (cI, 24, .inl f20)), ((r 22), .inl (cI, 24, .inl f22)), ((r 23), .inl (cI, 2, .inl f23)), ((r 24), .inl (cI, 2, .inl f24)), ((r 25), .inl (cI, 2, .inl f25)), ((r 30), .inl (cI, 2, .inl f30)), ((r 32), .inl (cI, 3200, .inl f32)), ((r 33), .inl (cI, 3200, .inl f33)), ((r 49), .inl (cI, 22, .inl (u9.2.2.1 0))), ((r 50), .inl (cI, 22, .inl (u9.2.2.1 1))), ((r 51), .inl (cI, 22, .inl (u9.2.2.1 2))), ((r 52), .inl (cI, 22, .inl f52)), ((r 61), .inl (cJ, 500, .inr (.inl (u9.2.2.2.1 0))))]) (fun (r9 : Int32) (u9 : SU) => (iR r9 0 1) ∧ (aR (u9.2.2.1 0) 0 1023) ∧ (aR (u9.2.2.1 1) 0 999) ∧ (FRX (u9.2.2.1 0) f49 x1.toNatClampNeg) ∧ (∀ T18 : Nat → Int32, HB f14 T18 f20 f23 (i 13).toNatClampNeg → ((x2.toNatClampNeg : Nat) : Int) < (T18 (i 13).toNatClampNeg).toInt → HV f14 f49 (i 13).toNatClampNeg x1.toNatClampNeg → HV f14 (u9.2.2.1 0) (i 13).toNatClampNeg x1.toNatClampNeg)) := by
  refine fun sz => k_enter (cc := cX7_goes) (maxL := 4) (ret := some (.boolean)) (Qc := fun A => va_Qi (fun (r9 : Int32) (u9 : SU) => (iR r9 0 1) ∧ (aR (u9.2.2.1 0) 0 1023) ∧ (aR (u9.2.2.1 1) 0 999) ∧ (FRX (u9.2.2.1 0) f49 x1.toNatClampNeg) ∧ (∀ T18 : Nat → Int32, HB f14 T18 f20 f23 (i 13).toNatClampNeg → ((x2.toNatClampNeg : Nat) : Int) < (T18 (i 13).toNatClampNeg).toInt → HV f14 f49 (i 13).toNatClampNeg x1.toNatClampNeg → HV f14 (u9.2.2.1 0) (i 13).toNatClampNeg x1.toNatClampNeg)) (fun u => k_B (dC, dI) vwCl (tyy cI cJ cZ cM) A ((fun (u9 : SU) => [(h, .inr (7, oM r (upd (upd (upd (upd (upd i 62 (f49 x1.toNatClampNeg)) 63 (f50 x1.toNatClampNeg)) 64 (f51 x1.toNatClampNeg)) 65 (f52 x1.toNatClampNeg)) 66 x2) j)), ((r 14), .inl (cI, 2, .inl f14)), ((r 15), .inl (cI, 20, .inl f15)), ((r 16), .inl (cI, 20, .inl f16)), ((r 19), .inl (cI, 24, .inl f19)), ((r 20), .inl (cI, 24, .inl f20)), ((r 22), .inl (cI, 24, .inl f22)), ((r 23), .inl (cI, 2, .inl f23)), ((r 24), .inl (cI, 2, .inl f24)), ((r 25), .inl (cI, 2, .inl f25)), ((r 30), .inl (cI, 2, .inl f30)), ((r 32), .inl (cI, 3200, .inl f32)), ((r 33), .inl (cI, 3200, .inl f33)), ((r 49), .inl (cI, 22, .inl (u9.2.2.1 0))), ((r 50), .inl (cI, 22, .inl (u9.2.2.1 1))), ((r 51), .inl (cI, 22, .inl (u9.2.2.1 2))), ((r 52), .inl (cI, 22, .inl f52)), ((r 61), .inl (cJ, 500, .inr (.inl (u9.2.2.2.1 0))))]) u)) A) sz (by decide +kernel) rfl (Nat.le_of_ble_eq_true rfl) (fun p e s m args below meth c A ls H locs B hP hD hS hl => ?_)
  obtain ⟨hx, hb, hml, hown, hts, hr, hlk, hnm, hK, hA, hN, hC⟩ := id B
  have hown : s.vm.findClass RX7 = some m.cls := hown
  have hl : lv_has ls 4 [(0, .ref h), (1, .int x1), (2, .int x2)] := hl
  have w_0 : (Cond.fieldLink RX7 165 "WishSeaModel" "seaOf" "[I").before args s = true := hts _ (List.mem_of_getElem? (i := 1) rfl)
  have w_1 : (Cond.fieldLink RX7 162 "WishSeaModel" "hadOf" "[I").before args s = true := hts _ (List.mem_of_getElem? (i := 2) rfl)
  have w_2 : (Cond.fieldLink RX7 168 "WishSeaModel" "saidOf" "[I").before args s = true := hts _ (List.mem_of_getElem? (i := 3) rfl)
  have w_3 : (Cond.fieldLink RX7 102 "WishSeaModel" "bearing" "[I").before args s = true := hts _ (List.mem_of_getElem? (i := 4) rfl)
  have w_4 : (Cond.fieldLink RX7 51 "WishSeaModel" "bank" "I").before args s = true := hts _ (List.mem_of_getElem? (i := 5) rfl)
  have w_5 : (Cond.fieldLink RX7 81 "WishSeaModel" "firstOnes" "[I").before args s = true := hts _ (List.mem_of_getElem? (i := 6) rfl)
  have hinX7 : ∀ w ∈ u_ws RX7 TX7 92, w ∈ wsX7_goes := fun _ h => List.mem_cons_of_mem _ (List.mem_append_right _ h)
  refine lv_aload_n hx hb dX7_goes_0 rfl (lv_at hl 0 rfl) ?_
  refine lv_iload_n hx hb dX7_goes_1 rfl (lv_at hl 1 rfl) ?_
  refine k_cv (wc := [(h, .inr (7, oM r i j)), ((r 49), .inl (cI, 22, .inl f49)), ((r 50), .inl (cI, 22, .inl f50)), ((r 51), .inl (cI, 22, .inl f51)), ((r 52), .inl (cI, 22, .inl f52))]) (wr := [((r 14), .inl (cI, 2, .inl f14)), ((r 15), .inl (cI, 20, .inl f15)), ((r 16), .inl (cI, 20, .inl f16)), ((r 19), .inl (cI, 24, .inl f19)), ((r 20), .inl (cI, 24, .inl f20)), ((r 22), .inl (cI, 24, .inl f22)), ((r 23), .inl (cI, 2, .inl f23)), ((r 24), .inl (cI, 2, .inl f24)), ((r 25), .inl (cI, 2, .inl f25)), ((r 30), .inl (cI, 2, .inl f30)), ((r 32), .inl (cI, 3200, .inl f32)), ((r 33), .inl (cI, 3200, .inl f33)), ((r 61), .inl (cJ, 500, .inr (.inl g61)))]) (fun hPc hDc hFc => va_runV (As := [.int x1]) (rest := []) ⟨hx, hb, hml, hown, hts⟩ (s_X7_asksLayer_v0 l dC dI cI cJ cZ cM h r i j x1 f49 f50 f51 f52 hx1 hI hf49 hf50 H.size) (cwV 1 hts gX7_goes_X7_asksLayer rfl rfl rfl (by decide +kernel) ⟨(Nat.le_of_ble_eq_true rfl), (Nat.le_of_ble_eq_true rfl)⟩) (k_pV hPc hDc hK hN hC hS hFc hP (q0 := 0) (ci := 7) rfl rfl) rfl rfl hl.1 rfl (lv_room (Nat.le_of_ble_eq_true rfl)) dX7_goes_2 ⟨(Nat.le_of_ble_eq_true rfl), (Nat.le_of_ble_eq_true rfl)⟩) hP hD hS hA [0, 13, 14, 15, 16] [1, 2, 3, 4, 5, 6, 7, 8, 9, 10, 11, 12, 17] rfl rfl rfl rfl (by decide) (fun _ => rfl) 0 0 rfl rfl (fun u_2 H locs hw hP hD hS => ?_)
  have hP : va_P (dC, dI) vwCl [((r 14), .inl (cI, 2, .inl f14)), ((r 15), .inl (cI, 20, .inl f15)), ((r 16), .inl (cI, 20, .inl f16)), ((r 19), .inl (cI, 24, .inl f19)), ((r 20), .inl (cI, 24, .inl f20)), ((r 22), .inl (cI, 24, .inl f22)), ((r 23), .inl (cI, 2, .inl f23)), ((r 24), .inl (cI, 2, .inl f24)), ((r 25), .inl (cI, 2, .inl f25)), ((r 30), .inl (cI, 2, .inl f30)), ((r 32), .inl (cI, 3200, .inl f32)), ((r 33), .inl (cI, 3200, .inl f33)), ((r 61), .inl (cJ, 500, .inr (.inl g61))), (h, .inr (7, oM r (upd (upd (upd (upd i 62 (f49 x1.toNatClampNeg)) 63 (f50 x1.toNatClampNeg)) 64 (f51 x1.toNatClampNeg)) 65 (f52 x1.toNatClampNeg)) j)), ((r 49), .inl (cI, 22, .inl f49)), ((r 50), .inl (cI, 22, .inl f50)), ((r 51), .inl (cI, 22, .inl f51)), ((r 52), .inl (cI, 22, .inl f52))] H := hP
  have hD : va_D A [((r 14), .inl (cI, 2, .inl f14)), ((r 15), .inl (cI, 20, .inl f15)), ((r 16), .inl (cI, 20, .inl f16)), ((r 19), .inl (cI, 24, .inl f19)), ((r 20), .inl (cI, 24, .inl f20)), ((r 22), .inl (cI, 24, .inl f22)), ((r 23), .inl (cI, 2, .inl f23)), ((r 24), .inl (cI, 2, .inl f24)), ((r 25), .inl (cI, 2, .inl f25)), ((r 30), .inl (cI, 2, .inl f30)), ((r 32), .inl (cI, 3200, .inl f32)), ((r 33), .inl (cI, 3200, .inl f33)), ((r 61), .inl (cJ, 500, .inr (.inl g61))), (h, .inr (7, oM r (upd (upd (upd (upd i 62 (f49 x1.toNatClampNeg)) 63 (f50 x1.toNatClampNeg)) 64 (f51 x1.toNatClampNeg)) 65 (f52 x1.toNatClampNeg)) j)), ((r 49), .inl (cI, 22, .inl f49)), ((r 50), .inl (cI, 22, .inl f50)), ((r 51), .inl (cI, 22, .inl f51)), ((r 52), .inl (cI, 22, .inl f52))] := hD
  refine lv_aload_n hx hb dX7_goes_5 rfl (lv_at hl 0 rfl) ?_
  refine k_get (D := (dC, dI)) (ci := 7) (v := .ref (r 50)) (C := RX7) (T := TX7) (N := 92) hx hb hts hinX7 hown hK hP 13 rfl rfl 50 (by decide) w_0 rfl rfl dX7_goes_6 ?_
  refine lv_iload_n hx hb dX7_goes_9 rfl (lv_at hl 1 rfl) ?_
  refine lv_dup2_11 hx hb dX7_goes_10 rfl rfl ?_
  refine va_iald hx hb hK hP 15 0 rfl rfl (iR_vp hx1 (by decide +kernel)) dX7_goes_11 ?_
  have f_11_1 : iR (f50 x1.toNatClampNeg) 0 999 := hf50 _
  refine lv_aload_n hx hb dX7_goes_12 rfl (lv_at hl 0 rfl) ?_
  refine lv_iload_n hx hb dX7_goes_13 rfl (lv_at hl 2 rfl) ?_
  refine k_ci (wc := [(h, .inr (7, oM r (upd (upd (upd (upd i 62 (f49 x1.toNatClampNeg)) 63 (f50 x1.toNatClampNeg)) 64 (f51 x1.toNatClampNeg)) 65 (f52 x1.toNatClampNeg)) j)), ((r 14), .inl (cI, 2, .inl f14)), ((r 15), .inl (cI, 20, .inl f15)), ((r 16), .inl (cI, 20, .inl f16)), ((r 19), .inl (cI, 24, .inl f19)), ((r 20), .inl (cI, 24, .inl f20)), ((r 24), .inl (cI, 2, .inl f24)), ((r 25), .inl (cI, 2, .inl f25)), ((r 32), .inl (cI, 3200, .inl f32)), ((r 33), .inl (cI, 3200, .inl f33)), ((r 61), .inl (cJ, 500, .inr (.inl g61)))]) (wr := [((r 22), .inl (cI, 24, .inl f22)), ((r 23), .inl (cI, 2, .inl f23)), ((r 30), .inl (cI, 2, .inl f30)), ((r 49), .inl (cI, 22, .inl f49)), ((r 50), .inl (cI, 22, .inl f50)), ((r 51), .inl (cI, 22, .inl f51)), ((r 52), .inl (cI, 22, .inl f52))]) (fun hPc hDc hFc => va_runV (As := [.int x2]) (rest := [.int (f50 x1.toNatClampNeg), .int x1, .ref (r 50)]) ⟨hx, hb, hml, hown, hts⟩ (s_X7_darkBy_v0 l dC dI cI cJ cZ cM h r (upd (upd (upd (upd i 62 (f49 x1.toNatClampNeg)) 63 (f50 x1.toNatClampNeg)) 64 (f51 x1.toNatClampNeg)) 65 (f52 x1.toNatClampNeg)) j x2 f14 f15 f16 f19 f20 f24 f25 f32 f33 g61 hx2 (mR_upd 65 (mR_upd 64 (mR_upd 63 (mR_upd 62 hI (show iR _ (loI 62) (hiI 62) from (iR_top _))) (show iR _ (loI 63) (hiI 63) from (iR_top _))) (show iR _ (loI 64) (hiI 64) from (iR_top _))) (show iR _ (loI 65) (hiI 65) from (iR_top _))) hf14 hf15 hf20 hf24 hf25 hsg24 H.size) (cwV 1 hts gX7_goes_X7_darkBy rfl rfl rfl (by decide +kernel) ⟨(Nat.le_of_ble_eq_true rfl), (Nat.le_of_ble_eq_true rfl)⟩) (k_pV hPc hDc hK hN hC hS hFc hP (q0 := 13) (ci := 7) rfl rfl) rfl rfl hl.1 rfl (lv_room (Nat.le_of_ble_eq_true rfl)) dX7_goes_14 ⟨(Nat.le_of_ble_eq_true rfl), (Nat.le_of_ble_eq_true rfl)⟩) hP hD hS hA [13, 0, 1, 2, 3, 4, 7, 8, 10, 11, 12] [5, 6, 9, 14, 15, 16, 17] rfl rfl rfl rfl (by decide) (fun _ => rfl) 0 0 rfl rfl (fun r_14 u_14 H locs hw hP hD hS => ?_)
  have g_14_0 := hw
  have hP : va_P (dC, dI) vwCl [((r 22), .inl (cI, 24, .inl f22)), ((r 23), .inl (cI, 2, .inl f23)), ((r 30), .inl (cI, 2, .inl f30)), ((r 49), .inl (cI, 22, .inl f49)), ((r 50), .inl (cI, 22, .inl f50)), ((r 51), .inl (cI, 22, .inl f51)), ((r 52), .inl (cI, 22, .inl f52)), (h, .inr (7, oM r (upd (upd (upd (upd (upd i 62 (f49 x1.toNatClampNeg)) 63 (f50 x1.toNatClampNeg)) 64 (f51 x1.toNatClampNeg)) 65 (f52 x1.toNatClampNeg)) 66 x2) j)), ((r 14), .inl (cI, 2, .inl f14)), ((r 15), .inl (cI, 20, .inl f15)), ((r 16), .inl (cI, 20, .inl f16)), ((r 19), .inl (cI, 24, .inl f19)), ((r 20), .inl (cI, 24, .inl f20)), ((r 24), .inl (cI, 2, .inl f24)), ((r 25), .inl (cI, 2, .inl f25)), ((r 32), .inl (cI, 3200, .inl f32)), ((r 33), .inl (cI, 3200, .inl f33)), ((r 61), .inl (cJ, 500, .inr (.inl (u_14.2.2.2.1 0))))] H := hP
  have hD : va_D A [((r 22), .inl (cI, 24, .inl f22)), ((r 23), .inl (cI, 2, .inl f23)), ((r 30), .inl (cI, 2, .inl f30)), ((r 49), .inl (cI, 22, .inl f49)), ((r 50), .inl (cI, 22, .inl f50)), ((r 51), .inl (cI, 22, .inl f51)), ((r 52), .inl (cI, 22, .inl f52)), (h, .inr (7, oM r (upd (upd (upd (upd (upd i 62 (f49 x1.toNatClampNeg)) 63 (f50 x1.toNatClampNeg)) 64 (f51 x1.toNatClampNeg)) 65 (f52 x1.toNatClampNeg)) 66 x2) j)), ((r 14), .inl (cI, 2, .inl f14)), ((r 15), .inl (cI, 20, .inl f15)), ((r 16), .inl (cI, 20, .inl f16)), ((r 19), .inl (cI, 24, .inl f19)), ((r 20), .inl (cI, 24, .inl f20)), ((r 24), .inl (cI, 2, .inl f24)), ((r 25), .inl (cI, 2, .inl f25)), ((r 32), .inl (cI, 3200, .inl f32)), ((r 33), .inl (cI, 3200, .inl f33)), ((r 61), .inl (cJ, 500, .inr (.inl (u_14.2.2.2.1 0))))] := hD
  refine lv_iadd hx hb dX7_goes_17 ?_
  refine lv_topi (fun y_17 ey_17 => ?_)
  have f_17_2 : iR y_17 0 1098 := iR_add ey_17 f_11_1 g_14_0 (by decide +kernel)
  refine s_iast (g := (upd f50 x1.toNatClampNeg y_17)) (ws' := [((r 22), .inl (cI, 24, .inl f22)), ((r 23), .inl (cI, 2, .inl f23)), ((r 30), .inl (cI, 2, .inl f30)), ((r 49), .inl (cI, 22, .inl f49)), ((r 50), .inl (cI, 22, .inl (upd f50 x1.toNatClampNeg y_17))), ((r 51), .inl (cI, 22, .inl f51)), ((r 52), .inl (cI, 22, .inl f52)), (h, .inr (7, oM r (upd (upd (upd (upd (upd i 62 (f49 x1.toNatClampNeg)) 63 (f50 x1.toNatClampNeg)) 64 (f51 x1.toNatClampNeg)) 65 (f52 x1.toNatClampNeg)) 66 x2) j)), ((r 14), .inl (cI, 2, .inl f14)), ((r 15), .inl (cI, 20, .inl f15)), ((r 16), .inl (cI, 20, .inl f16)), ((r 19), .inl (cI, 24, .inl f19)), ((r 20), .inl (cI, 24, .inl f20)), ((r 24), .inl (cI, 2, .inl f24)), ((r 25), .inl (cI, 2, .inl f25)), ((r 32), .inl (cI, 3200, .inl f32)), ((r 33), .inl (cI, 3200, .inl f33)), ((r 61), .inl (cJ, 500, .inr (.inl (u_14.2.2.2.1 0))))]) hx hb hK hP hD hS 4 0 rfl rfl (iR_vp hx1 (by decide +kernel)) rfl rfl dX7_goes_18 (fun H locs hP hD hS => ?_)
  refine lv_aload_n hx hb dX7_goes_19 rfl (lv_at hl 0 rfl) ?_
  refine k_get (D := (dC, dI)) (ci := 7) (v := .ref (r 49)) (C := RX7) (T := TX7) (N := 92) hx hb hts hinX7 hown hK hP 7 rfl rfl 49 (by decide) w_1 rfl rfl dX7_goes_20 ?_
  refine lv_iload_n hx hb dX7_goes_23 rfl (lv_at hl 1 rfl) ?_
  refine lv_aload_n hx hb dX7_goes_24 rfl (lv_at hl 0 rfl) ?_
  refine lv_aload_n hx hb dX7_goes_25 rfl (lv_at hl 0 rfl) ?_
  refine k_get (D := (dC, dI)) (ci := 7) (v := .ref (r 49)) (C := RX7) (T := TX7) (N := 92) hx hb hts hinX7 hown hK hP 7 rfl rfl 49 (by decide) w_1 rfl rfl dX7_goes_26 ?_
  refine lv_iload_n hx hb dX7_goes_29 rfl (lv_at hl 1 rfl) ?_
  refine va_iald hx hb hK hP 3 0 rfl rfl (iR_vp hx1 (by decide +kernel)) dX7_goes_30 ?_
  have f_30_3 : iR (f49 x1.toNatClampNeg) 0 1023 := hf49 _
  refine lv_iload_n hx hb dX7_goes_31 rfl (lv_at hl 2 rfl) ?_
  refine k_ci (wc := [(h, .inr (7, oM r (upd (upd (upd (upd (upd i 62 (f49 x1.toNatClampNeg)) 63 (f50 x1.toNatClampNeg)) 64 (f51 x1.toNatClampNeg)) 65 (f52 x1.toNatClampNeg)) 66 x2) j)), ((r 20), .inl (cI, 24, .inl f20)), ((r 22), .inl (cI, 24, .inl f22))]) (wr := [((r 23), .inl (cI, 2, .inl f23)), ((r 30), .inl (cI, 2, .inl f30)), ((r 49), .inl (cI, 22, .inl f49)), ((r 50), .inl (cI, 22, .inl (upd f50 x1.toNatClampNeg y_17))), ((r 51), .inl (cI, 22, .inl f51)), ((r 52), .inl (cI, 22, .inl f52)), ((r 14), .inl (cI, 2, .inl f14)), ((r 15), .inl (cI, 20, .inl f15)), ((r 16), .inl (cI, 20, .inl f16)), ((r 19), .inl (cI, 24, .inl f19)), ((r 24), .inl (cI, 2, .inl f24)), ((r 25), .inl (cI, 2, .inl f25)), ((r 32), .inl (cI, 3200, .inl f32)), ((r 33), .inl (cI, 3200, .inl f33)), ((r 61), .inl (cJ, 500, .inr (.inl (u_14.2.2.2.1 0))))]) (fun hPc hDc hFc => va_runV (As := [.int (f49 x1.toNatClampNeg), .int x2]) (rest := [.int x1, .ref (r 49)]) ⟨hx, hb, hml, hown, hts⟩ (s_X7_behind_v0 l dC dI cI cJ cZ cM h r (upd (upd (upd (upd (upd i 62 (f49 x1.toNatClampNeg)) 63 (f50 x1.toNatClampNeg)) 64 (f51 x1.toNatClampNeg)) 65 (f52 x1.toNatClampNeg)) 66 x2) j (f49 x1.toNatClampNeg) x2 f20 f22 f_30_3 hx2 (mR_upd 66 (mR_upd 65 (mR_upd 64 (mR_upd 63 (mR_upd 62 hI (show iR _ (loI 62) (hiI 62) from (iR_top _))) (show iR _ (loI 63) (hiI 63) from (iR_top _))) (show iR _ (loI 64) (hiI 64) from (iR_top _))) (show iR _ (loI 65) (hiI 65) from (iR_top _))) (show iR _ (loI 66) (hiI 66) from (iR_w hx2 (by decide +kernel)))) hf20 H.size) (cwV 2 hts gX7_goes_X7_behind rfl rfl rfl (by decide +kernel) ⟨(Nat.le_of_ble_eq_true rfl), (Nat.le_of_ble_eq_true rfl)⟩) (k_pV hPc hDc hK hN hC hS hFc hP (q0 := 7) (ci := 7) rfl rfl) rfl rfl hl.1 rfl (lv_room (Nat.le_of_ble_eq_true rfl)) dX7_goes_32 ⟨(Nat.le_of_ble_eq_true rfl), (Nat.le_of_ble_eq_true rfl)⟩) hP hD hS hA [7, 12, 0] [1, 2, 3, 4, 5, 6, 8, 9, 10, 11, 13, 14, 15, 16, 17] rfl rfl rfl rfl (by decide) (fun _ => rfl) 0 0 rfl rfl (fun r_32 u_32 H locs hw hP hD hS => ?_)
  obtain ⟨g_32_0, g_32_1⟩ := hw
  have hP : va_P (dC, dI) vwCl [((r 23), .inl (cI, 2, .inl f23)), ((r 30), .inl (cI, 2, .inl f30)), ((r 49), .inl (cI, 22, .inl f49)), ((r 50), .inl (cI, 22, .inl (upd f50 x1.toNatClampNeg y_17))), ((r 51), .inl (cI, 22, .inl f51)), ((r 52), .inl (cI, 22, .inl f52)), ((r 14), .inl (cI, 2, .inl f14)), ((r 15), .inl (cI, 20, .inl f15)), ((r 16), .inl (cI, 20, .inl f16)), ((r 19), .inl (cI, 24, .inl f19)), ((r 24), .inl (cI, 2, .inl f24)), ((r 25), .inl (cI, 2, .inl f25)), ((r 32), .inl (cI, 3200, .inl f32)), ((r 33), .inl (cI, 3200, .inl f33)), ((r 61), .inl (cJ, 500, .inr (.inl (u_14.2.2.2.1 0)))), (h, .inr (7, oM r (upd (upd (upd (upd (upd i 62 (f49 x1.toNatClampNeg)) 63 (f50 x1.toNatClampNeg)) 64 (f51 x1.toNatClampNeg)) 65 (f52 x1.toNatClampNeg)) 66 x2) j)), ((r 20), .inl (cI, 24, .inl f20)), ((r 22), .inl (cI, 24, .inl f22))] H := hP
  have hD : va_D A [((r 23), .inl (cI, 2, .inl f23)), ((r 30), .inl (cI, 2, .inl f30)), ((r 49), .inl (cI, 22, .inl f49)), ((r 50), .inl (cI, 22, .inl (upd f50 x1.toNatClampNeg y_17))), ((r 51), .inl (cI, 22, .inl f51)), ((r 52), .inl (cI, 22, .inl f52)), ((r 14), .inl (cI, 2, .inl f14)), ((r 15), .inl (cI, 20, .inl f15)), ((r 16), .inl (cI, 20, .inl f16)), ((r 19), .inl (cI, 24, .inl f19)), ((r 24), .inl (cI, 2, .inl f24)), ((r 25), .inl (cI, 2, .inl f25)), ((r 32), .inl (cI, 3200, .inl f32)), ((r 33), .inl (cI, 3200, .inl f33)), ((r 61), .inl (cJ, 500, .inr (.inl (u_14.2.2.2.1 0)))), (h, .inr (7, oM r (upd (upd (upd (upd (upd i 62 (f49 x1.toNatClampNeg)) 63 (f50 x1.toNatClampNeg)) 64 (f51 x1.toNatClampNeg)) 65 (f52 x1.toNatClampNeg)) 66 x2) j)), ((r 20), .inl (cI, 24, .inl f20)), ((r 22), .inl (cI, 24, .inl f22))] := hD
  have g_32_1 : ∀ T14 T18 T23 : Nat → Int32, aR T14 0 10 → HB T14 T18 f20 T23 (i 13).toNatClampNeg → ((x2.toNatClampNeg : Nat) : Int) < (T18 (i 13).toNatClampNeg).toInt → (f49 x1.toNatClampNeg).toInt < 2 ^ (T14 (i 13).toNatClampNeg).toInt.toNat → r_32.toInt < 2 ^ (T14 (i 13).toNatClampNeg).toInt.toNat := g_32_1
  refine s_iast (g := (upd f49 x1.toNatClampNeg r_32)) (ws' := [((r 23), .inl (cI, 2, .inl f23)), ((r 30), .inl (cI, 2, .inl f30)), ((r 49), .inl (cI, 22, .inl (upd f49 x1.toNatClampNeg r_32))), ((r 50), .inl (cI, 22, .inl (upd f50 x1.toNatClampNeg y_17))), ((r 51), .inl (cI, 22, .inl f51)), ((r 52), .inl (cI, 22, .inl f52)), ((r 14), .inl (cI, 2, .inl f14)), ((r 15), .inl (cI, 20, .inl f15)), ((r 16), .inl (cI, 20, .inl f16)), ((r 19), .inl (cI, 24, .inl f19)), ((r 24), .inl (cI, 2, .inl f24)), ((r 25), .inl (cI, 2, .inl f25)), ((r 32), .inl (cI, 3200, .inl f32)), ((r 33), .inl (cI, 3200, .inl f33)), ((r 61), .inl (cJ, 500, .inr (.inl (u_14.2.2.2.1 0)))), (h, .inr (7, oM r (upd (upd (upd (upd (upd i 62 (f49 x1.toNatClampNeg)) 63 (f50 x1.toNatClampNeg)) 64 (f51 x1.toNatClampNeg)) 65 (f52 x1.toNatClampNeg)) 66 x2) j)), ((r 20), .inl (cI, 24, .inl f20)), ((r 22), .inl (cI, 24, .inl f22))]) hx hb hK hP hD hS 2 0 rfl rfl (iR_vp hx1 (by decide +kernel)) rfl rfl dX7_goes_35 (fun H locs hP hD hS => ?_)
  refine lv_aload_n hx hb dX7_goes_36 rfl (lv_at hl 0 rfl) ?_
  refine k_get (D := (dC, dI)) (ci := 7) (v := .ref (r 51)) (C := RX7) (T := TX7) (N := 92) hx hb hts hinX7 hown hK hP 15 rfl rfl 51 (by decide) w_2 rfl rfl dX7_goes_37 ?_
  refine lv_iload_n hx hb dX7_goes_40 rfl (lv_at hl 1 rfl) ?_
  refine lv_dup2_11 hx hb dX7_goes_41 rfl rfl ?_
  refine va_iald hx hb hK hP 4 0 rfl rfl (iR_vp hx1 (by decide +kernel)) dX7_goes_42 ?_
  refine lv_iconst (v := 1) hx hb dX7_goes_43 (by decide +kernel) ?_
  refine lv_iadd hx hb dX7_goes_44 ?_
  refine lv_topi (fun y_44 ey_44 => ?_)
  refine s_iast (g := (upd f51 x1.toNatClampNeg y_44)) (ws' := [((r 23), .inl (cI, 2, .inl f23)), ((r 30), .inl (cI, 2, .inl f30)), ((r 49), .inl (cI, 22, .inl (upd f49 x1.toNatClampNeg r_32))), ((r 50), .inl (cI, 22, .inl (upd f50 x1.toNatClampNeg y_17))), ((r 51), .inl (cI, 22, .inl (upd f51 x1.toNatClampNeg y_44))), ((r 52), .inl (cI, 22, .inl f52)), ((r 14), .inl (cI, 2, .inl f14)), ((r 15), .inl (cI, 20, .inl f15)), ((r 16), .inl (cI, 20, .inl f16)), ((r 19), .inl (cI, 24, .inl f19)), ((r 24), .inl (cI, 2, .inl f24)), ((r 25), .inl (cI, 2, .inl f25)), ((r 32), .inl (cI, 3200, .inl f32)), ((r 33), .inl (cI, 3200, .inl f33)), ((r 61), .inl (cJ, 500, .inr (.inl (u_14.2.2.2.1 0)))), (h, .inr (7, oM r (upd (upd (upd (upd (upd i 62 (f49 x1.toNatClampNeg)) 63 (f50 x1.toNatClampNeg)) 64 (f51 x1.toNatClampNeg)) 65 (f52 x1.toNatClampNeg)) 66 x2) j)), ((r 20), .inl (cI, 24, .inl f20)), ((r 22), .inl (cI, 24, .inl f22))]) hx hb hK hP hD hS 4 0 rfl rfl (iR_vp hx1 (by decide +kernel)) rfl rfl dX7_goes_45 (fun H locs hP hD hS => ?_)
  refine lv_aload_n hx hb dX7_goes_46 rfl (lv_at hl 0 rfl) ?_
  refine k_get (D := (dC, dI)) (ci := 7) (v := .ref (r 50)) (C := RX7) (T := TX7) (N := 92) hx hb hts hinX7 hown hK hP 15 rfl rfl 50 (by decide) w_0 rfl rfl dX7_goes_47 ?_
  refine lv_iload_n hx hb dX7_goes_50 rfl (lv_at hl 1 rfl) ?_
  refine va_iald hx hb hK hP 3 0 rfl rfl (iR_vp hx1 (by decide +kernel)) dX7_goes_51 ?_
  refine k_int (v := y_17) pk_us ?_
  refine lv_aload_n hx hb dX7_goes_52 rfl (lv_at hl 0 rfl) ?_
  refine k_get (D := (dC, dI)) (ci := 7) (v := .ref (r 30)) (C := RX7) (T := TX7) (N := 92) hx hb hts hinX7 hown hK hP 15 rfl rfl 30 (by decide) w_3 rfl rfl dX7_goes_53 ?_
  refine lv_aload_n hx hb dX7_goes_56 rfl (lv_at hl 0 rfl) ?_
  have f_57_4 : iR (i 13) 0 1 := hI 13
  refine k_get (D := (dC, dI)) (ci := 7) (v := .int (i 13)) (C := RX7) (T := TX7) (N := 92) hx hb hts hinX7 hown hK hP 15 rfl rfl 13 (by decide) w_4 rfl rfl dX7_goes_57 ?_
  refine va_iald hx hb hK hP 1 0 rfl rfl (iR_vp f_57_4 (by decide +kernel)) dX7_goes_60 ?_
  have f_60_5 : iR (f30 (i 13).toNatClampNeg) 0 999 := hf30 _
  refine lv_icmp_le (tgt := 68) hx hb dX7_goes_61 (by decide) (fun c_61 => ?_) (fun c_61 => ?_)
  · have c_61 : y_17 ≤ (f30 (i 13).toNatClampNeg) := c_61
    have f_68_6 : iR y_17 0 999 := iR_leL c_61 f_17_2 f_60_5 (by decide +kernel)
    refine lv_iconst (v := 0) hx hb dX7_goes_68 (by decide +kernel) ?_
    refine lv_istore_n (lv' := [(3, .int 0), (0, .ref h), (1, .int x1), (2, .int x2)]) hx hb dX7_goes_69 rfl hl (by decide) rfl (fun ls hl => ?_)
    refine lv_iload_n hx hb dX7_goes_70 rfl (lv_at hl 0 rfl) ?_
    refine lv_if_eq (tgt := 103) hx hb dX7_goes_71 (by decide) (fun _ => ?_) (fun q9 => absurd q9 (by decide +kernel))
    refine lv_iload_n hx hb dX7_goes_103 rfl (lv_at hl 0 rfl) ?_
    exact k_ri B hP hD hS dX7_goes_104 ((fun _ => 0), (fun _ => 0), (fun k9 => match k9 with | 0 => (upd f49 x1.toNatClampNeg r_32) | 1 => (upd f50 x1.toNatClampNeg y_17) | 2 => (upd f51 x1.toNatClampNeg y_44) | _ => (fun _ => 0)), (fun k9 => match k9 with | 0 => (u_14.2.2.2.1 0) | _ => (fun _ => 0)), (fun _ => 0)) [15, 6, 7, 8, 9, 16, 17, 0, 10, 11, 1, 12, 13, 2, 3, 4, 5, 14] rfl rfl rfl (Nat.le_of_ble_eq_true rfl) (Nat.le_of_ble_eq_true rfl) ⟨(show iR 0 0 1 from (iR_c (n := 0) (a := 0) (b := 1) (by decide +kernel) (by decide +kernel))), (show aR (upd f49 x1.toNatClampNeg r_32) 0 1023 from (aR_upd _ hf49 g_32_0)), (show aR (upd f50 x1.toNatClampNeg y_17) 0 999 from (aR_upd _ hf50 f_68_6)), (show FRX (upd f49 x1.toNatClampNeg r_32) f49 x1.toNatClampNeg from (FRX_upd _ FRX_refl)), (show ∀ T18 : Nat → Int32, HB f14 T18 f20 f23 (i 13).toNatClampNeg → ((x2.toNatClampNeg : Nat) : Int) < (T18 (i 13).toNatClampNeg).toInt → HV f14 f49 (i 13).toNatClampNeg x1.toNatClampNeg → HV f14 (upd f49 x1.toNatClampNeg r_32) (i 13).toNatClampNeg x1.toNatClampNeg from (fun T18 hb hw hv => HV_at (g_32_1 f14 T18 f23 hf14 hb hw hv)))⟩
  · have c_61 : (f30 (i 13).toNatClampNeg) < y_17 := i_nle c_61
    have f_64_6 : iR y_17 1 1098 := iR_ltR c_61 f_60_5 f_17_2 (by decide +kernel)
    refine lv_iconst (v := 1) hx hb dX7_goes_64 (by decide +kernel) ?_
    refine lv_goto (tgt := 69) hx hb dX7_goes_65 (by decide) ?_
    refine lv_istore_n (lv' := [(3, .int 1), (0, .ref h), (1, .int x1), (2, .int x2)]) hx hb dX7_goes_69 rfl hl (by decide) rfl (fun ls hl => ?_)
    refine lv_iload_n hx hb dX7_goes_70 rfl (lv_at hl 0 rfl) ?_
    refine lv_if_eq (tgt := 103) hx hb dX7_goes_71 (by decide) (fun q9 => absurd q9 (by decide +kernel)) (fun _ => ?_)
    refine lv_aload_n hx hb dX7_goes_74 rfl (lv_at hl 1 rfl) ?_
    refine k_get (D := (dC, dI)) (ci := 7) (v := .ref (r 49)) (C := RX7) (T := TX7) (N := 92) hx hb hts hinX7 hown hK hP 15 rfl rfl 49 (by decide) w_1 rfl rfl dX7_goes_75 ?_
    refine lv_iload_n hx hb dX7_goes_78 rfl (lv_at hl 2 rfl) ?_
    refine lv_aload_n hx hb dX7_goes_79 rfl (lv_at hl 1 rfl) ?_
    refine k_get (D := (dC, dI)) (ci := 7) (v := .ref (r 23)) (C := RX7) (T := TX7) (N := 92) hx hb hts hinX7 hown hK hP 15 rfl rfl 23 (by decide) w_5 rfl rfl dX7_goes_80 ?_
    refine lv_aload_n hx hb dX7_goes_83 rfl (lv_at hl 1 rfl) ?_
    refine k_get (D := (dC, dI)) (ci := 7) (v := .int (i 13)) (C := RX7) (T := TX7) (N := 92) hx hb hts hinX7 hown hK hP 15 rfl rfl 13 (by decide) w_4 rfl rfl dX7_goes_84 ?_
    refine va_iald hx hb hK hP 0 0 rfl rfl (iR_vp f_57_4 (by decide +kernel)) dX7_goes_87 ?_
    have f_87p65_7 : iR (f23 (i 13).toNatClampNeg) 0 1023 := hf23 _
    refine s_iast (g := (upd (upd f49 x1.toNatClampNeg r_32) x1.toNatClampNeg (f23 (i 13).toNatClampNeg))) (ws' := [((r 23), .inl (cI, 2, .inl f23)), ((r 30), .inl (cI, 2, .inl f30)), ((r 49), .inl (cI, 22, .inl (upd (upd f49 x1.toNatClampNeg r_32) x1.toNatClampNeg (f23 (i 13).toNatClampNeg)))), ((r 50), .inl (cI, 22, .inl (upd f50 x1.toNatClampNeg y_17))), ((r 51), .inl (cI, 22, .inl (upd f51 x1.toNatClampNeg y_44))), ((r 52), .inl (cI, 22, .inl f52)), ((r 14), .inl (cI, 2, .inl f14)), ((r 15), .inl (cI, 20, .inl f15)), ((r 16), .inl (cI, 20, .inl f16)), ((r 19), .inl (cI, 24, .inl f19)), ((r 24), .inl (cI, 2, .inl f24)), ((r 25), .inl (cI, 2, .inl f25)), ((r 32), .inl (cI, 3200, .inl f32)), ((r 33), .inl (cI, 3200, .inl f33)), ((r 61), .inl (cJ, 500, .inr (.inl (u_14.2.2.2.1 0)))), (h, .inr (7, oM r (upd (upd (upd (upd (upd i 62 (f49 x1.toNatClampNeg)) 63 (f50 x1.toNatClampNeg)) 64 (f51 x1.toNatClampNeg)) 65 (f52 x1.toNatClampNeg)) 66 x2) j)), ((r 20), .inl (cI, 24, .inl f20)), ((r 22), .inl (cI, 24, .inl f22))]) hx hb hK hP hD hS 2 0 rfl rfl (iR_vp hx1 (by decide +kernel)) rfl rfl dX7_goes_88 (fun H locs hP hD hS => ?_)
    refine lv_aload_n hx hb dX7_goes_89 rfl (lv_at hl 1 rfl) ?_
    refine k_get (D := (dC, dI)) (ci := 7) (v := .ref (r 50)) (C := RX7) (T := TX7) (N := 92) hx hb hts hinX7 hown hK hP 15 rfl rfl 50 (by decide) w_0 rfl rfl dX7_goes_90 ?_
    refine lv_iload_n hx hb dX7_goes_93 rfl (lv_at hl 2 rfl) ?_
    refine lv_iconst (v := 0) hx hb dX7_goes_94 (by decide +kernel) ?_
    refine s_iast (g := (upd (upd f50 x1.toNatClampNeg y_17) x1.toNatClampNeg 0)) (ws' := [((r 23), .inl (cI, 2, .inl f23)), ((r 30), .inl (cI, 2, .inl f30)), ((r 49), .inl (cI, 22, .inl (upd (upd f49 x1.toNatClampNeg r_32) x1.toNatClampNeg (f23 (i 13).toNatClampNeg)))), ((r 50), .inl (cI, 22, .inl (upd (upd f50 x1.toNatClampNeg y_17) x1.toNatClampNeg 0))), ((r 51), .inl (cI, 22, .inl (upd f51 x1.toNatClampNeg y_44))), ((r 52), .inl (cI, 22, .inl f52)), ((r 14), .inl (cI, 2, .inl f14)), ((r 15), .inl (cI, 20, .inl f15)), ((r 16), .inl (cI, 20, .inl f16)), ((r 19), .inl (cI, 24, .inl f19)), ((r 24), .inl (cI, 2, .inl f24)), ((r 25), .inl (cI, 2, .inl f25)), ((r 32), .inl (cI, 3200, .inl f32)), ((r 33), .inl (cI, 3200, .inl f33)), ((r 61), .inl (cJ, 500, .inr (.inl (u_14.2.2.2.1 0)))), (h, .inr (7, oM r (upd (upd (upd (upd (upd i 62 (f49 x1.toNatClampNeg)) 63 (f50 x1.toNatClampNeg)) 64 (f51 x1.toNatClampNeg)) 65 (f52 x1.toNatClampNeg)) 66 x2) j)), ((r 20), .inl (cI, 24, .inl f20)), ((r 22), .inl (cI, 24, .inl f22))]) hx hb hK hP hD hS 3 0 rfl rfl (iR_vp hx1 (by decide +kernel)) rfl rfl dX7_goes_95 (fun H locs hP hD hS => ?_)
    refine lv_aload_n hx hb dX7_goes_96 rfl (lv_at hl 1 rfl) ?_
    refine k_get (D := (dC, dI)) (ci := 7) (v := .ref (r 51)) (C := RX7) (T := TX7) (N := 92) hx hb hts hinX7 hown hK hP 15 rfl rfl 51 (by decide) w_2 rfl rfl dX7_goes_97 ?_
    refine lv_iload_n hx hb dX7_goes_100 rfl (lv_at hl 2 rfl) ?_
    refine lv_iconst (v := 0) hx hb dX7_goes_101 (by decide +kernel) ?_
    refine s_iast (g := (upd (upd f51 x1.toNatClampNeg y_44) x1.toNatClampNeg 0)) (ws' := [((r 23), .inl (cI, 2, .inl f23)), ((r 30), .inl (cI, 2, .inl f30)), ((r 49), .inl (cI, 22, .inl (upd (upd f49 x1.toNatClampNeg r_32) x1.toNatClampNeg (f23 (i 13).toNatClampNeg)))), ((r 50), .inl (cI, 22, .inl (upd (upd f50 x1.toNatClampNeg y_17) x1.toNatClampNeg 0))), ((r 51), .inl (cI, 22, .inl (upd (upd f51 x1.toNatClampNeg y_44) x1.toNatClampNeg 0))), ((r 52), .inl (cI, 22, .inl f52)), ((r 14), .inl (cI, 2, .inl f14)), ((r 15), .inl (cI, 20, .inl f15)), ((r 16), .inl (cI, 20, .inl f16)), ((r 19), .inl (cI, 24, .inl f19)), ((r 24), .inl (cI, 2, .inl f24)), ((r 25), .inl (cI, 2, .inl f25)), ((r 32), .inl (cI, 3200, .inl f32)), ((r 33), .inl (cI, 3200, .inl f33)), ((r 61), .inl (cJ, 500, .inr (.inl (u_14.2.2.2.1 0)))), (h, .inr (7, oM r (upd (upd (upd (upd (upd i 62 (f49 x1.toNatClampNeg)) 63 (f50 x1.toNatClampNeg)) 64 (f51 x1.toNatClampNeg)) 65 (f52 x1.toNatClampNeg)) 66 x2) j)), ((r 20), .inl (cI, 24, .inl f20)), ((r 22), .inl (cI, 24, .inl f22))]) hx hb hK hP hD hS 4 0 rfl rfl (iR_vp hx1 (by decide +kernel)) rfl rfl dX7_goes_102 (fun H locs hP hD hS => ?_)
    refine lv_iload_n hx hb dX7_goes_103 rfl (lv_at hl 0 rfl) ?_
    exact k_ri B hP hD hS dX7_goes_104 ((fun _ => 0), (fun _ => 0), (fun k9 => match k9 with | 0 => (upd (upd f49 x1.toNatClampNeg r_32) x1.toNatClampNeg (f23 (i 13).toNatClampNeg)) | 1 => (upd (upd f50 x1.toNatClampNeg y_17) x1.toNatClampNeg 0) | 2 => (upd (upd f51 x1.toNatClampNeg y_44) x1.toNatClampNeg 0) | _ => (fun _ => 0)), (fun k9 => match k9 with | 0 => (u_14.2.2.2.1 0) | _ => (fun _ => 0)), (fun _ => 0)) [15, 6, 7, 8, 9, 16, 17, 0, 10, 11, 1, 12, 13, 2, 3, 4, 5, 14] rfl rfl rfl (Nat.le_of_ble_eq_true rfl) (Nat.le_of_ble_eq_true rfl) ⟨(show iR 1 0 1 from (iR_c (n := 1) (a := 0) (b := 1) (by decide +kernel) (by decide +kernel))), (show aR (upd (upd f49 x1.toNatClampNeg r_32) x1.toNatClampNeg (f23 (i 13).toNatClampNeg)) 0 1023 from (aR_upd2 _ hf49 f_87p65_7)), (show aR (upd (upd f50 x1.toNatClampNeg y_17) x1.toNatClampNeg 0) 0 999 from (aR_upd2 _ hf50 (iR_c (n := 0) (a := 0) (b := 999) (by decide +kernel) (by decide +kernel)))), (show FRX (upd (upd f49 x1.toNatClampNeg r_32) x1.toNatClampNeg (f23 (i 13).toNatClampNeg)) f49 x1.toNatClampNeg from (FRX_upd _ (FRX_upd _ FRX_refl))), (show ∀ T18 : Nat → Int32, HB f14 T18 f20 f23 (i 13).toNatClampNeg → ((x2.toNatClampNeg : Nat) : Int) < (T18 (i 13).toNatClampNeg).toInt → HV f14 f49 (i 13).toNatClampNeg x1.toNatClampNeg → HV f14 (upd (upd f49 x1.toNatClampNeg r_32) x1.toNatClampNeg (f23 (i 13).toNatClampNeg)) (i 13).toNatClampNeg x1.toNatClampNeg from (fun T18 hb hw hv => HV_at hb.1))⟩
set_option maxHeartbeats 8000000 in
set_option maxRecDepth 100000 in
theorem s_X7_writesDown_v0 (l : Launch) (dC : Nat → ClassId) (dI : Nat → Nat → Nat) (cI cJ cZ cM : ClassId) (h : Nat) (r : Nat → Nat) (i : Nat → Int32) (j : Nat → Int64) (x1 : Int32) (x2 : Int32) (f50 : Nat → Int32) (f52 : Nat → Int32) (f53 : Nat → Int32) (f54 : Nat → Int32) (f55 : Nat → Int32) (f56 : Nat → Int32) (f57 : Nat → Int32) (hx1 : iR x1 0 11) (hx2 : iR x2 0 1) (hI : mR i) (hf50 : aR f50 0 999) (hf53 : aR f53 0 50) : k_Mv l yX7_writesDown wsX7_writesDown ({ frames := 1, cells := 0, slots := 0, locals := 40 }) (dC, dI) vwCl (tyy cI cJ cZ cM) [(h, .inr (7, oM r i j)), ((r 50), .inl (cI, 22, .inl f50)), ((r 52), .inl (cI, 22, .inl f52)), ((r 53), .inl (cI, 22, .inl f53)), ((r 54), .inl (cI, 1100, .inl f54)), ((r 55), .inl (cI, 1100, .inl f55)), ((r 56), .inl (cI, 1100, .inl f56)), ((r 57), .inl (cI, 1100, .inl f57))] [.ref h, .int x1, .int x2] 0 0 (fun (u9 : SU) => [(h, .inr (7, oM r i j)), ((r 50), .inl (cI, 22, .inl f50)), ((r 52), .inl (cI, 22, .inl f52)), ((r 53), .inl (cI, 22, .inl (u9.2.2.1 0))), ((r 54), .inl (cI, 1100, .inl (u9.2.2.1 1))), ((r 55), .inl (cI, 1100, .inl (u9.2.2.1 2))), ((r 56), .inl (cI, 1100, .inl (u9.2.2.1 3))), ((r 57), .inl (cI, 1100, .inl (u9.2.2.1 4)))]) (fun (u9 : SU) => (aR (u9.2.2.1 0) 0 50)) := by
  refine fun sz => k_enter (cc := cX7_writesDown) (maxL := 4) (ret := none) (Qc := fun A => va_Qv (fun (u9 : SU) => (aR (u9.2.2.1 0) 0 50)) (fun u => k_B (dC, dI) vwCl (tyy cI cJ cZ cM) A ((fun (u9 : SU) => [(h, .inr (7, oM r i j)), ((r 50), .inl (cI, 22, .inl f50)), ((r 52), .inl (cI, 22, .inl f52)), ((r 53), .inl (cI, 22, .inl (u9.2.2.1 0))), ((r 54), .inl (cI, 1100, .inl (u9.2.2.1 1))), ((r 55), .inl (cI, 1100, .inl (u9.2.2.1 2))), ((r 56), .inl (cI, 1100, .inl (u9.2.2.1 3))), ((r 57), .inl (cI, 1100, .inl (u9.2.2.1 4)))]) u)) A) sz (by decide +kernel) rfl (Nat.le_of_ble_eq_true rfl) (fun p e s m args below meth c A ls H locs B hP hD hS hl => ?_)
  obtain ⟨hx, hb, hml, hown, hts, hr, hlk, hnm, hK, hA, hN, hC⟩ := id B
  have hown : s.vm.findClass RX7 = some m.cls := hown
  have hl : lv_has ls 4 [(0, .ref h), (1, .int x1), (2, .int x2)] := hl
  have w_0 : (Cond.fieldLink RX7 174 "WishSeaModel" "keptMany" "[I").before args s = true := hts _ (List.mem_of_getElem? (i := 1) rfl)
  have w_1 : (Cond.fieldLink RX7 177 "WishSeaModel" "keptDay" "[I").before args s = true := hts _ (List.mem_of_getElem? (i := 2) rfl)
  have w_2 : (Cond.fieldLink RX7 171 "WishSeaModel" "dayOf" "[I").before args s = true := hts _ (List.mem_of_getElem? (i := 6) rfl)
  have w_3 : (Cond.fieldLink RX7 180 "WishSeaModel" "keptWish" "[I").before args s = true := hts _ (List.mem_of_getElem? (i := 3) rfl)
  have w_4 : (Cond.fieldLink RX7 183 "WishSeaModel" "keptSea" "[I").before args s = true := hts _ (List.mem_of_getElem? (i := 4) rfl)
  have w_5 : (Cond.fieldLink RX7 165 "WishSeaModel" "seaOf" "[I").before args s = true := hts _ (List.mem_of_getElem? (i := 7) rfl)
  have w_6 : (Cond.fieldLink RX7 186 "WishSeaModel" "keptFell" "[I").before args s = true := hts _ (List.mem_of_getElem? (i := 5) rfl)
  have hinX7 : ∀ w ∈ u_ws RX7 TX7 92, w ∈ wsX7_writesDown := fun _ h => List.mem_cons_of_mem _ (List.mem_append_right _ h)
  refine lv_aload_n hx hb dX7_writesDown_0 rfl (lv_at hl 0 rfl) ?_
  refine k_get (D := (dC, dI)) (ci := 7) (v := .ref (r 53)) (C := RX7) (T := TX7) (N := 92) hx hb hts hinX7 hown hK hP 0 rfl rfl 53 (by decide) w_0 rfl rfl dX7_writesDown_1 ?_
  refine lv_iconst (v := 0) hx hb dX7_writesDown_4 (by decide +kernel) ?_
  refine k_iald (v := (f53 0)) hx hb hK hP 3 0 0 rfl rfl rfl (Nat.le_of_ble_eq_true rfl) (Nat.le_of_ble_eq_true rfl) rfl dX7_writesDown_5 ?_
  have f_5_1 : iR (f53 0) 0 50 := hf53 _
  refine lv_bipush (v := 50) hx hb dX7_writesDown_6 (by decide +kernel) ?_
  refine lv_icmp_ne (tgt := 91) hx hb dX7_writesDown_8 (by decide) (fun c_8 => ?_) (fun c_8 => ?_)
  · have c_8 : ¬ (f53 0) = 50 := c_8
    have f_91_2 : iR (f53 0) 0 49 := iR_neL c_8 f_5_1 (iR_c (n := 50) (a := 50) (b := 50) (by decide +kernel) (by decide +kernel)) (by decide +kernel)
    refine lv_aload_n hx hb dX7_writesDown_91 rfl (lv_at hl 0 rfl) ?_
    refine k_get (D := (dC, dI)) (ci := 7) (v := .ref (r 53)) (C := RX7) (T := TX7) (N := 92) hx hb hts hinX7 hown hK hP 0 rfl rfl 53 (by decide) w_0 rfl rfl dX7_writesDown_92 ?_
    refine lv_iconst (v := 0) hx hb dX7_writesDown_95 (by decide +kernel) ?_
    refine k_iald (v := (f53 0)) hx hb hK hP 3 0 0 rfl rfl rfl (Nat.le_of_ble_eq_true rfl) (Nat.le_of_ble_eq_true rfl) rfl dX7_writesDown_96 ?_
    refine lv_istore_n (lv' := [(3, .int (f53 0)), (0, .ref h), (1, .int x1), (2, .int x2)]) hx hb dX7_writesDown_97 rfl hl (by decide) rfl (fun ls hl => ?_)
    refine lv_aload_n hx hb dX7_writesDown_98 rfl (lv_at hl 1 rfl) ?_
    refine k_get (D := (dC, dI)) (ci := 7) (v := .ref (r 54)) (C := RX7) (T := TX7) (N := 92) hx hb hts hinX7 hown hK hP 0 rfl rfl 54 (by decide) w_1 rfl rfl dX7_writesDown_99 ?_
    refine lv_iload_n hx hb dX7_writesDown_102 rfl (lv_at hl 0 rfl) ?_
    refine lv_aload_n hx hb dX7_writesDown_103 rfl (lv_at hl 1 rfl) ?_
    refine k_get (D := (dC, dI)) (ci := 7) (v := .ref (r 52)) (C := RX7) (T := TX7) (N := 92) hx hb hts hinX7 hown hK hP 0 rfl rfl 52 (by decide) w_2 rfl rfl dX7_writesDown_104 ?_
    refine lv_iconst (v := 0) hx hb dX7_writesDown_107 (by decide +kernel) ?_
    refine k_iald (v := (f52 0)) hx hb hK hP 2 0 0 rfl rfl rfl (Nat.le_of_ble_eq_true rfl) (Nat.le_of_ble_eq_true rfl) rfl dX7_writesDown_108 ?_
    refine s_iast (g := (upd f54 (f53 0).toNatClampNeg (f52 0))) (ws' := [(h, .inr (7, oM r i j)), ((r 50), .inl (cI, 22, .inl f50)), ((r 52), .inl (cI, 22, .inl f52)), ((r 53), .inl (cI, 22, .inl f53)), ((r 54), .inl (cI, 1100, .inl (upd f54 (f53 0).toNatClampNeg (f52 0)))), ((r 55), .inl (cI, 1100, .inl f55)), ((r 56), .inl (cI, 1100, .inl f56)), ((r 57), .inl (cI, 1100, .inl f57))]) hx hb hK hP hD hS 4 0 rfl rfl (iR_vp f_91_2 (by decide +kernel)) rfl rfl dX7_writesDown_109 (fun H locs hP hD hS => ?_)
    refine lv_aload_n hx hb dX7_writesDown_110 rfl (lv_at hl 1 rfl) ?_
    refine k_get (D := (dC, dI)) (ci := 7) (v := .ref (r 55)) (C := RX7) (T := TX7) (N := 92) hx hb hts hinX7 hown hK hP 0 rfl rfl 55 (by decide) w_3 rfl rfl dX7_writesDown_111 ?_
    refine lv_iload_n hx hb dX7_writesDown_114 rfl (lv_at hl 0 rfl) ?_
    refine lv_iload_n hx hb dX7_writesDown_115 rfl (lv_at hl 2 rfl) ?_
    refine s_iast (g := (upd f55 (f53 0).toNatClampNeg x1)) (ws' := [(h, .inr (7, oM r i j)), ((r 50), .inl (cI, 22, .inl f50)), ((r 52), .inl (cI, 22, .inl f52)), ((r 53), .inl (cI, 22, .inl f53)), ((r 54), .inl (cI, 1100, .inl (upd f54 (f53 0).toNatClampNeg (f52 0)))), ((r 55), .inl (cI, 1100, .inl (upd f55 (f53 0).toNatClampNeg x1))), ((r 56), .inl (cI, 1100, .inl f56)), ((r 57), .inl (cI, 1100, .inl f57))]) hx hb hK hP hD hS 5 0 rfl rfl (iR_vp f_91_2 (by decide +kernel)) rfl rfl dX7_writesDown_116 (fun H locs hP hD hS => ?_)
    refine lv_aload_n hx hb dX7_writesDown_117 rfl (lv_at hl 1 rfl) ?_
    refine k_get (D := (dC, dI)) (ci := 7) (v := .ref (r 56)) (C := RX7) (T := TX7) (N := 92) hx hb hts hinX7 hown hK hP 0 rfl rfl 56 (by decide) w_4 rfl rfl dX7_writesDown_118 ?_
    refine lv_iload_n hx hb dX7_writesDown_121 rfl (lv_at hl 0 rfl) ?_
    refine lv_aload_n hx hb dX7_writesDown_122 rfl (lv_at hl 1 rfl) ?_
    refine k_get (D := (dC, dI)) (ci := 7) (v := .ref (r 50)) (C := RX7) (T := TX7) (N := 92) hx hb hts hinX7 hown hK hP 0 rfl rfl 50 (by decide) w_5 rfl rfl dX7_writesDown_123 ?_
    refine lv_iconst (v := 0) hx hb dX7_writesDown_126 (by decide +kernel) ?_
    refine k_iald (v := (f50 0)) hx hb hK hP 1 0 0 rfl rfl rfl (Nat.le_of_ble_eq_true rfl) (Nat.le_of_ble_eq_true rfl) rfl dX7_writesDown_127 ?_
    have f_127p8_3 : iR (f50 0) 0 999 := hf50 _
    refine s_iast (g := (upd f56 (f53 0).toNatClampNeg (f50 0))) (ws' := [(h, .inr (7, oM r i j)), ((r 50), .inl (cI, 22, .inl f50)), ((r 52), .inl (cI, 22, .inl f52)), ((r 53), .inl (cI, 22, .inl f53)), ((r 54), .inl (cI, 1100, .inl (upd f54 (f53 0).toNatClampNeg (f52 0)))), ((r 55), .inl (cI, 1100, .inl (upd f55 (f53 0).toNatClampNeg x1))), ((r 56), .inl (cI, 1100, .inl (upd f56 (f53 0).toNatClampNeg (f50 0)))), ((r 57), .inl (cI, 1100, .inl f57))]) hx hb hK hP hD hS 6 0 rfl rfl (iR_vp f_91_2 (by decide +kernel)) rfl rfl dX7_writesDown_128 (fun H locs hP hD hS => ?_)
    refine lv_aload_n hx hb dX7_writesDown_129 rfl (lv_at hl 1 rfl) ?_
    refine k_get (D := (dC, dI)) (ci := 7) (v := .ref (r 57)) (C := RX7) (T := TX7) (N := 92) hx hb hts hinX7 hown hK hP 0 rfl rfl 57 (by decide) w_6 rfl rfl dX7_writesDown_130 ?_
    refine lv_iload_n hx hb dX7_writesDown_133 rfl (lv_at hl 0 rfl) ?_
    refine lv_iload_n hx hb dX7_writesDown_134 rfl (lv_at hl 3 rfl) ?_
    have J_143p8 : ∀ (j143p8_S0 : Int32) (hj143p8_S0 : iR j143p8_S0 0 1) (H : Heap) (locs : List Loc) (ls : Array Slot), va_P (dC, dI) vwCl [(h, .inr (7, oM r i j)), ((r 50), .inl (cI, 22, .inl f50)), ((r 52), .inl (cI, 22, .inl f52)), ((r 53), .inl (cI, 22, .inl f53)), ((r 54), .inl (cI, 1100, .inl (upd f54 (f53 0).toNatClampNeg (f52 0)))), ((r 55), .inl (cI, 1100, .inl (upd f55 (f53 0).toNatClampNeg x1))), ((r 56), .inl (cI, 1100, .inl (upd f56 (f53 0).toNatClampNeg (f50 0)))), ((r 57), .inl (cI, 1100, .inl f57))] H → va_D A [(h, .inr (7, oM r i j)), ((r 50), .inl (cI, 22, .inl f50)), ((r 52), .inl (cI, 22, .inl f52)), ((r 53), .inl (cI, 22, .inl f53)), ((r 54), .inl (cI, 1100, .inl (upd f54 (f53 0).toNatClampNeg (f52 0)))), ((r 55), .inl (cI, 1100, .inl (upd f55 (f53 0).toNatClampNeg x1))), ((r 56), .inl (cI, 1100, .inl (upd f56 (f53 0).toNatClampNeg (f50 0)))), ((r 57), .inl (cI, 1100, .inl f57))] → va_S A s.heap H locs → lv_has ls 4 [(0, .ref h)] → W p l e ({ frames := 1, cells := 0, slots := 0, locals := 40 }) s m args below meth c H locs 0 0 (MQ below (va_Qv (fun (u9 : SU) => (aR (u9.2.2.1 0) 0 50)) (fun u => k_B (dC, dI) vwCl (tyy cI cJ cZ cM) A ((fun (u9 : SU) => [(h, .inr (7, oM r i j)), ((r 50), .inl (cI, 22, .inl f50)), ((r 52), .inl (cI, 22, .inl f52)), ((r 53), .inl (cI, 22, .inl (u9.2.2.1 0))), ((r 54), .inl (cI, 1100, .inl (u9.2.2.1 1))), ((r 55), .inl (cI, 1100, .inl (u9.2.2.1 2))), ((r 56), .inl (cI, 1100, .inl (u9.2.2.1 3))), ((r 57), .inl (cI, 1100, .inl (u9.2.2.1 4)))]) u)) A) args s 0 0 A) (F0 m 143 ls [.int j143p8_S0, .int (f53 0), .ref (r 57)]) := by
      intro j143p8_S0 hj143p8_S0 H locs ls hP hD hS hl
      refine s_iast (g := (upd f57 (f53 0).toNatClampNeg j143p8_S0)) (ws' := [(h, .inr (7, oM r i j)), ((r 50), .inl (cI, 22, .inl f50)), ((r 52), .inl (cI, 22, .inl f52)), ((r 53), .inl (cI, 22, .inl f53)), ((r 54), .inl (cI, 1100, .inl (upd f54 (f53 0).toNatClampNeg (f52 0)))), ((r 55), .inl (cI, 1100, .inl (upd f55 (f53 0).toNatClampNeg x1))), ((r 56), .inl (cI, 1100, .inl (upd f56 (f53 0).toNatClampNeg (f50 0)))), ((r 57), .inl (cI, 1100, .inl (upd f57 (f53 0).toNatClampNeg j143p8_S0)))]) hx hb hK hP hD hS 7 0 rfl rfl (iR_vp f_91_2 (by decide +kernel)) rfl rfl dX7_writesDown_143 (fun H locs hP hD hS => ?_)
      refine lv_aload_n hx hb dX7_writesDown_144 rfl (lv_at hl 0 rfl) ?_
      refine k_get (D := (dC, dI)) (ci := 7) (v := .ref (r 53)) (C := RX7) (T := TX7) (N := 92) hx hb hts hinX7 hown hK hP 0 rfl rfl 53 (by decide) w_0 rfl rfl dX7_writesDown_145 ?_
      refine lv_iconst (v := 0) hx hb dX7_writesDown_148 (by decide +kernel) ?_
      refine lv_dup2_11 hx hb dX7_writesDown_149 rfl rfl ?_
      refine k_iald (v := (f53 0)) hx hb hK hP 3 0 0 rfl rfl rfl (Nat.le_of_ble_eq_true rfl) (Nat.le_of_ble_eq_true rfl) rfl dX7_writesDown_150 ?_
      refine lv_iconst (v := 1) hx hb dX7_writesDown_151 (by decide +kernel) ?_
      refine lv_iadd hx hb dX7_writesDown_152 ?_
      refine lv_topi (fun y_152p8 ey_152p8 => ?_)
      have f_152p8_1 : iR y_152p8 1 50 := iR_add ey_152p8 f_91_2 (iR_c (n := 1) (a := 1) (b := 1) (by decide +kernel) (by decide +kernel)) (by decide +kernel)
      refine k_iast (g := (upd f53 0 y_152p8)) (ws' := [(h, .inr (7, oM r i j)), ((r 50), .inl (cI, 22, .inl f50)), ((r 52), .inl (cI, 22, .inl f52)), ((r 53), .inl (cI, 22, .inl (upd f53 0 y_152p8))), ((r 54), .inl (cI, 1100, .inl (upd f54 (f53 0).toNatClampNeg (f52 0)))), ((r 55), .inl (cI, 1100, .inl (upd f55 (f53 0).toNatClampNeg x1))), ((r 56), .inl (cI, 1100, .inl (upd f56 (f53 0).toNatClampNeg (f50 0)))), ((r 57), .inl (cI, 1100, .inl (upd f57 (f53 0).toNatClampNeg j143p8_S0)))]) hx hb hK hP hD hS 3 0 0 rfl rfl rfl (Nat.le_of_ble_eq_true rfl) (Nat.le_of_ble_eq_true rfl) rfl rfl dX7_writesDown_153 (fun H locs hP hD hS => ?_)
      exact k_rv B hP hD hS dX7_writesDown_154 ((fun _ => 0), (fun _ => 0), (fun k9 => match k9 with | 0 => (upd f53 0 y_152p8) | 1 => (upd f54 (f53 0).toNatClampNeg (f52 0)) | 2 => (upd f55 (f53 0).toNatClampNeg x1) | 3 => (upd f56 (f53 0).toNatClampNeg (f50 0)) | 4 => (upd f57 (f53 0).toNatClampNeg j143p8_S0) | _ => (fun _ => 0)), (fun _ => (fun _ => 0)), (fun _ => 0)) [0, 1, 2, 3, 4, 5, 6, 7] rfl rfl (Nat.le_of_ble_eq_true rfl) (Nat.le_of_ble_eq_true rfl) (show aR (upd f53 0 y_152p8) 0 50 from (aR_upd _ hf53 (iR_w f_152p8_1 (by decide +kernel))))
    refine lv_if_eq (tgt := 142) hx hb dX7_writesDown_135 (by decide) (fun c_135p8 => ?_) (fun c_135p8 => ?_)
    · have c_135p8 : x2 = 0 := c_135p8
      have f_142p8_4 : iR x2 0 0 := iR_eqL c_135p8 hx2 (iR_c (n := 0) (a := 0) (b := 0) (by decide +kernel) (by decide +kernel)) (by decide +kernel)
      refine lv_iconst (v := 0) hx hb dX7_writesDown_142 (by decide +kernel) ?_
      exact J_143p8 0 (iR_c (n := 0) (a := 0) (b := 1) (by decide +kernel) (by decide +kernel)) H locs ls hP hD hS (lv_sub hl [1] rfl)
    · have c_135p8 : ¬ x2 = 0 := c_135p8
      have f_138p8_4 : iR x2 1 1 := iR_neL c_135p8 hx2 (iR_c (n := 0) (a := 0) (b := 0) (by decide +kernel) (by decide +kernel)) (by decide +kernel)
      refine lv_iconst (v := 1) hx hb dX7_writesDown_138 (by decide +kernel) ?_
      refine lv_goto (tgt := 143) hx hb dX7_writesDown_139 (by decide) ?_
      exact J_143p8 1 (iR_c (n := 1) (a := 0) (b := 1) (by decide +kernel) (by decide +kernel)) H locs ls hP hD hS (lv_sub hl [1] rfl)
  · have c_8 : (f53 0) = 50 := c_8
    have f_11_2 : iR (f53 0) 50 50 := iR_eqL c_8 f_5_1 (iR_c (n := 50) (a := 50) (b := 50) (by decide +kernel) (by decide +kernel)) (by decide +kernel)
    refine lv_iconst (v := 0) hx hb dX7_writesDown_11 (by decide +kernel) ?_
    have J_13 : ∀ (n_13 : Nat) (j13_A4 : Nat → Int32) (j13_A5 : Nat → Int32) (j13_A6 : Nat → Int32) (j13_A7 : Nat → Int32) (j13_L3 : Int32) (hj13_L3 : iR j13_L3 0 49) (hm_13 : (49 - j13_L3.toInt).toNat < n_13) (H : Heap) (locs : List Loc) (ls : Array Slot), va_P (dC, dI) vwCl [(h, .inr (7, oM r i j)), ((r 50), .inl (cI, 22, .inl f50)), ((r 52), .inl (cI, 22, .inl f52)), ((r 53), .inl (cI, 22, .inl f53)), ((r 54), .inl (cI, 1100, .inl j13_A4)), ((r 55), .inl (cI, 1100, .inl j13_A5)), ((r 56), .inl (cI, 1100, .inl j13_A6)), ((r 57), .inl (cI, 1100, .inl j13_A7))] H → va_D A [(h, .inr (7, oM r i j)), ((r 50), .inl (cI, 22, .inl f50)), ((r 52), .inl (cI, 22, .inl f52)), ((r 53), .inl (cI, 22, .inl f53)), ((r 54), .inl (cI, 1100, .inl j13_A4)), ((r 55), .inl (cI, 1100, .inl j13_A5)), ((r 56), .inl (cI, 1100, .inl j13_A6)), ((r 57), .inl (cI, 1100, .inl j13_A7))] → va_S A s.heap H locs → lv_has ls 4 [(0, .ref h), (1, .int x1), (2, .int x2), (3, .int j13_L3)] → W p l e ({ frames := 1, cells := 0, slots := 0, locals := 40 }) s m args below meth c H locs 0 0 (MQ below (va_Qv (fun (u9 : SU) => (aR (u9.2.2.1 0) 0 50)) (fun u => k_B (dC, dI) vwCl (tyy cI cJ cZ cM) A ((fun (u9 : SU) => [(h, .inr (7, oM r i j)), ((r 50), .inl (cI, 22, .inl f50)), ((r 52), .inl (cI, 22, .inl f52)), ((r 53), .inl (cI, 22, .inl (u9.2.2.1 0))), ((r 54), .inl (cI, 1100, .inl (u9.2.2.1 1))), ((r 55), .inl (cI, 1100, .inl (u9.2.2.1 2))), ((r 56), .inl (cI, 1100, .inl (u9.2.2.1 3))), ((r 57), .inl (cI, 1100, .inl (u9.2.2.1 4)))]) u)) A) args s 0 0 A) (F0 m 13 ls []) := by
      intro n_13
      induction n_13 with
      | zero => intro j13_A4 j13_A5 j13_A6 j13_A7 j13_L3 hj13_L3 hm_13; exact absurd hm_13 (Nat.not_lt_zero _)
      | succ n_13 ih_13 =>
        intro j13_A4 j13_A5 j13_A6 j13_A7 j13_L3 hj13_L3 hm_13 H locs ls hP hD hS hl
        refine lv_iload_n hx hb dX7_writesDown_13 rfl (lv_at hl 3 rfl) ?_
        refine lv_bipush (v := 49) hx hb dX7_writesDown_14 (by decide +kernel) ?_
        refine lv_icmp_ge (tgt := 81) hx hb dX7_writesDown_16 (by decide) (fun c_16 => ?_) (fun c_16 => ?_)
        · have c_16 : 49 ≤ j13_L3 := c_16
          have f_81_1 : iR j13_L3 49 49 := iR_leR c_16 (iR_c (n := 49) (a := 49) (b := 49) (by decide +kernel) (by decide +kernel)) hj13_L3 (by decide +kernel)
          refine lv_aload_n hx hb dX7_writesDown_81 rfl (lv_at hl 0 rfl) ?_
          refine k_get (D := (dC, dI)) (ci := 7) (v := .ref (r 53)) (C := RX7) (T := TX7) (N := 92) hx hb hts hinX7 hown hK hP 0 rfl rfl 53 (by decide) w_0 rfl rfl dX7_writesDown_82 ?_
          refine lv_iconst (v := 0) hx hb dX7_writesDown_85 (by decide +kernel) ?_
          refine lv_dup2_11 hx hb dX7_writesDown_86 rfl rfl ?_
          refine k_iald (v := (f53 0)) hx hb hK hP 3 0 0 rfl rfl rfl (Nat.le_of_ble_eq_true rfl) (Nat.le_of_ble_eq_true rfl) rfl dX7_writesDown_87 ?_
          refine lv_iconst (v := 1) hx hb dX7_writesDown_88 (by decide +kernel) ?_
          refine lv_isub hx hb dX7_writesDown_89 ?_
          refine lv_topi (fun y_89 ey_89 => ?_)
          have f_89_2 : iR y_89 49 49 := iR_sub ey_89 f_11_2 (iR_c (n := 1) (a := 1) (b := 1) (by decide +kernel) (by decide +kernel)) (by decide +kernel)
          refine k_iast (g := (upd f53 0 y_89)) (ws' := [(h, .inr (7, oM r i j)), ((r 50), .inl (cI, 22, .inl f50)), ((r 52), .inl (cI, 22, .inl f52)), ((r 53), .inl (cI, 22, .inl (upd f53 0 y_89))), ((r 54), .inl (cI, 1100, .inl j13_A4)), ((r 55), .inl (cI, 1100, .inl j13_A5)), ((r 56), .inl (cI, 1100, .inl j13_A6)), ((r 57), .inl (cI, 1100, .inl j13_A7))]) hx hb hK hP hD hS 3 0 0 rfl rfl rfl (Nat.le_of_ble_eq_true rfl) (Nat.le_of_ble_eq_true rfl) rfl rfl dX7_writesDown_90 (fun H locs hP hD hS => ?_)
          refine lv_aload_n hx hb dX7_writesDown_91 rfl (lv_at hl 0 rfl) ?_
          refine k_get (D := (dC, dI)) (ci := 7) (v := .ref (r 53)) (C := RX7) (T := TX7) (N := 92) hx hb hts hinX7 hown hK hP 0 rfl rfl 53 (by decide) w_0 rfl rfl dX7_writesDown_92 ?_
          refine lv_iconst (v := 0) hx hb dX7_writesDown_95 (by decide +kernel) ?_
          refine k_iald (v := ((upd f53 0 y_89) 0)) hx hb hK hP 3 0 0 rfl rfl rfl (Nat.le_of_ble_eq_true rfl) (Nat.le_of_ble_eq_true rfl) rfl dX7_writesDown_96 ?_
          refine k_int (v := y_89) rfl ?_
          refine lv_istore_n (lv' := [(3, .int y_89), (0, .ref h), (1, .int x1), (2, .int x2)]) hx hb dX7_writesDown_97 rfl hl (by decide) rfl (fun ls hl => ?_)
          refine lv_aload_n hx hb dX7_writesDown_98 rfl (lv_at hl 1 rfl) ?_
          refine k_get (D := (dC, dI)) (ci := 7) (v := .ref (r 54)) (C := RX7) (T := TX7) (N := 92) hx hb hts hinX7 hown hK hP 0 rfl rfl 54 (by decide) w_1 rfl rfl dX7_writesDown_99 ?_
          refine lv_iload_n hx hb dX7_writesDown_102 rfl (lv_at hl 0 rfl) ?_
          refine lv_aload_n hx hb dX7_writesDown_103 rfl (lv_at hl 1 rfl) ?_
          refine k_get (D := (dC, dI)) (ci := 7) (v := .ref (r 52)) (C := RX7) (T := TX7) (N := 92) hx hb hts hinX7 hown hK hP 0 rfl rfl 52 (by decide) w_2 rfl rfl dX7_writesDown_104 ?_
          refine lv_iconst (v := 0) hx hb dX7_writesDown_107 (by decide +kernel) ?_
          refine k_iald (v := (f52 0)) hx hb hK hP 2 0 0 rfl rfl rfl (Nat.le_of_ble_eq_true rfl) (Nat.le_of_ble_eq_true rfl) rfl dX7_writesDown_108 ?_
          refine s_iast (g := (upd j13_A4 y_89.toNatClampNeg (f52 0))) (ws' := [(h, .inr (7, oM r i j)), ((r 50), .inl (cI, 22, .inl f50)), ((r 52), .inl (cI, 22, .inl f52)), ((r 53), .inl (cI, 22, .inl (upd f53 0 y_89))), ((r 54), .inl (cI, 1100, .inl (upd j13_A4 y_89.toNatClampNeg (f52 0)))), ((r 55), .inl (cI, 1100, .inl j13_A5)), ((r 56), .inl (cI, 1100, .inl j13_A6)), ((r 57), .inl (cI, 1100, .inl j13_A7))]) hx hb hK hP hD hS 4 0 rfl rfl (iR_vp f_89_2 (by decide +kernel)) rfl rfl dX7_writesDown_109 (fun H locs hP hD hS => ?_)
          refine lv_aload_n hx hb dX7_writesDown_110 rfl (lv_at hl 1 rfl) ?_
          refine k_get (D := (dC, dI)) (ci := 7) (v := .ref (r 55)) (C := RX7) (T := TX7) (N := 92) hx hb hts hinX7 hown hK hP 0 rfl rfl 55 (by decide) w_3 rfl rfl dX7_writesDown_111 ?_
          refine lv_iload_n hx hb dX7_writesDown_114 rfl (lv_at hl 0 rfl) ?_
          refine lv_iload_n hx hb dX7_writesDown_115 rfl (lv_at hl 2 rfl) ?_
          refine s_iast (g := (upd j13_A5 y_89.toNatClampNeg x1)) (ws' := [(h, .inr (7, oM r i j)), ((r 50), .inl (cI, 22, .inl f50)), ((r 52), .inl (cI, 22, .inl f52)), ((r 53), .inl (cI, 22, .inl (upd f53 0 y_89))), ((r 54), .inl (cI, 1100, .inl (upd j13_A4 y_89.toNatClampNeg (f52 0)))), ((r 55), .inl (cI, 1100, .inl (upd j13_A5 y_89.toNatClampNeg x1))), ((r 56), .inl (cI, 1100, .inl j13_A6)), ((r 57), .inl (cI, 1100, .inl j13_A7))]) hx hb hK hP hD hS 5 0 rfl rfl (iR_vp f_89_2 (by decide +kernel)) rfl rfl dX7_writesDown_116 (fun H locs hP hD hS => ?_)
          refine lv_aload_n hx hb dX7_writesDown_117 rfl (lv_at hl 1 rfl) ?_
          refine k_get (D := (dC, dI)) (ci := 7) (v := .ref (r 56)) (C := RX7) (T := TX7) (N := 92) hx hb hts hinX7 hown hK hP 0 rfl rfl 56 (by decide) w_4 rfl rfl dX7_writesDown_118 ?_
          refine lv_iload_n hx hb dX7_writesDown_121 rfl (lv_at hl 0 rfl) ?_
          refine lv_aload_n hx hb dX7_writesDown_122 rfl (lv_at hl 1 rfl) ?_
          refine k_get (D := (dC, dI)) (ci := 7) (v := .ref (r 50)) (C := RX7) (T := TX7) (N := 92) hx hb hts hinX7 hown hK hP 0 rfl rfl 50 (by decide) w_5 rfl rfl dX7_writesDown_123 ?_
          refine lv_iconst (v := 0) hx hb dX7_writesDown_126 (by decide +kernel) ?_
          refine k_iald (v := (f50 0)) hx hb hK hP 1 0 0 rfl rfl rfl (Nat.le_of_ble_eq_true rfl) (Nat.le_of_ble_eq_true rfl) rfl dX7_writesDown_127 ?_
          have f_127p90_3 : iR (f50 0) 0 999 := hf50 _
          refine s_iast (g := (upd j13_A6 y_89.toNatClampNeg (f50 0))) (ws' := [(h, .inr (7, oM r i j)), ((r 50), .inl (cI, 22, .inl f50)), ((r 52), .inl (cI, 22, .inl f52)), ((r 53), .inl (cI, 22, .inl (upd f53 0 y_89))), ((r 54), .inl (cI, 1100, .inl (upd j13_A4 y_89.toNatClampNeg (f52 0)))), ((r 55), .inl (cI, 1100, .inl (upd j13_A5 y_89.toNatClampNeg x1))), ((r 56), .inl (cI, 1100, .inl (upd j13_A6 y_89.toNatClampNeg (f50 0)))), ((r 57), .inl (cI, 1100, .inl j13_A7))]) hx hb hK hP hD hS 6 0 rfl rfl (iR_vp f_89_2 (by decide +kernel)) rfl rfl dX7_writesDown_128 (fun H locs hP hD hS => ?_)
          refine lv_aload_n hx hb dX7_writesDown_129 rfl (lv_at hl 1 rfl) ?_
          refine k_get (D := (dC, dI)) (ci := 7) (v := .ref (r 57)) (C := RX7) (T := TX7) (N := 92) hx hb hts hinX7 hown hK hP 0 rfl rfl 57 (by decide) w_6 rfl rfl dX7_writesDown_130 ?_
          refine lv_iload_n hx hb dX7_writesDown_133 rfl (lv_at hl 0 rfl) ?_
          refine lv_iload_n hx hb dX7_writesDown_134 rfl (lv_at hl 3 rfl) ?_
          have J_143p90 : ∀ (j143p90_S0 : Int32) (hj143p90_S0 : iR j143p90_S0 0 1) (H : Heap) (locs : List Loc) (ls : Array Slot), va_P (dC, dI) vwCl [(h, .inr (7, oM r i j)), ((r 50), .inl (cI, 22, .inl f50)), ((r 52), .inl (cI, 22, .inl f52)), ((r 53), .inl (cI, 22, .inl (upd f53 0 y_89))), ((r 54), .inl (cI, 1100, .inl (upd j13_A4 y_89.toNatClampNeg (f52 0)))), ((r 55), .inl (cI, 1100, .inl (upd j13_A5 y_89.toNatClampNeg x1))), ((r 56), .inl (cI, 1100, .inl (upd j13_A6 y_89.toNatClampNeg (f50 0)))), ((r 57), .inl (cI, 1100, .inl j13_A7))] H → va_D A [(h, .inr (7, oM r i j)), ((r 50), .inl (cI, 22, .inl f50)), ((r 52), .inl (cI, 22, .inl f52)), ((r 53), .inl (cI, 22, .inl (upd f53 0 y_89))), ((r 54), .inl (cI, 1100, .inl (upd j13_A4 y_89.toNatClampNeg (f52 0)))), ((r 55), .inl (cI, 1100, .inl (upd j13_A5 y_89.toNatClampNeg x1))), ((r 56), .inl (cI, 1100, .inl (upd j13_A6 y_89.toNatClampNeg (f50 0)))), ((r 57), .inl (cI, 1100, .inl j13_A7))] → va_S A s.heap H locs → lv_has ls 4 [(0, .ref h)] → W p l e ({ frames := 1, cells := 0, slots := 0, locals := 40 }) s m args below meth c H locs 0 0 (MQ below (va_Qv (fun (u9 : SU) => (aR (u9.2.2.1 0) 0 50)) (fun u => k_B (dC, dI) vwCl (tyy cI cJ cZ cM) A ((fun (u9 : SU) => [(h, .inr (7, oM r i j)), ((r 50), .inl (cI, 22, .inl f50)), ((r 52), .inl (cI, 22, .inl f52)), ((r 53), .inl (cI, 22, .inl (u9.2.2.1 0))), ((r 54), .inl (cI, 1100, .inl (u9.2.2.1 1))), ((r 55), .inl (cI, 1100, .inl (u9.2.2.1 2))), ((r 56), .inl (cI, 1100, .inl (u9.2.2.1 3))), ((r 57), .inl (cI, 1100, .inl (u9.2.2.1 4)))]) u)) A) args s 0 0 A) (F0 m 143 ls [.int j143p90_S0, .int y_89, .ref (r 57)]) := by
            intro j143p90_S0 hj143p90_S0 H locs ls hP hD hS hl
            refine s_iast (g := (upd j13_A7 y_89.toNatClampNeg j143p90_S0)) (ws' := [(h, .inr (7, oM r i j)), ((r 50), .inl (cI, 22, .inl f50)), ((r 52), .inl (cI, 22, .inl f52)), ((r 53), .inl (cI, 22, .inl (upd f53 0 y_89))), ((r 54), .inl (cI, 1100, .inl (upd j13_A4 y_89.toNatClampNeg (f52 0)))), ((r 55), .inl (cI, 1100, .inl (upd j13_A5 y_89.toNatClampNeg x1))), ((r 56), .inl (cI, 1100, .inl (upd j13_A6 y_89.toNatClampNeg (f50 0)))), ((r 57), .inl (cI, 1100, .inl (upd j13_A7 y_89.toNatClampNeg j143p90_S0)))]) hx hb hK hP hD hS 7 0 rfl rfl (iR_vp f_89_2 (by decide +kernel)) rfl rfl dX7_writesDown_143 (fun H locs hP hD hS => ?_)
            refine lv_aload_n hx hb dX7_writesDown_144 rfl (lv_at hl 0 rfl) ?_
            refine k_get (D := (dC, dI)) (ci := 7) (v := .ref (r 53)) (C := RX7) (T := TX7) (N := 92) hx hb hts hinX7 hown hK hP 0 rfl rfl 53 (by decide) w_0 rfl rfl dX7_writesDown_145 ?_
            refine lv_iconst (v := 0) hx hb dX7_writesDown_148 (by decide +kernel) ?_
            refine lv_dup2_11 hx hb dX7_writesDown_149 rfl rfl ?_
            refine k_iald (v := ((upd f53 0 y_89) 0)) hx hb hK hP 3 0 0 rfl rfl rfl (Nat.le_of_ble_eq_true rfl) (Nat.le_of_ble_eq_true rfl) rfl dX7_writesDown_150 ?_
            refine k_int (v := y_89) rfl ?_
            refine lv_iconst (v := 1) hx hb dX7_writesDown_151 (by decide +kernel) ?_
            refine lv_iadd hx hb dX7_writesDown_152 ?_
            refine lv_topi (fun y_152p90 ey_152p90 => ?_)
            have f_152p90_1 : iR y_152p90 50 50 := iR_add ey_152p90 f_89_2 (iR_c (n := 1) (a := 1) (b := 1) (by decide +kernel) (by decide +kernel)) (by decide +kernel)
            refine k_iast (g := (upd (upd f53 0 y_89) 0 y_152p90)) (ws' := [(h, .inr (7, oM r i j)), ((r 50), .inl (cI, 22, .inl f50)), ((r 52), .inl (cI, 22, .inl f52)), ((r 53), .inl (cI, 22, .inl (upd (upd f53 0 y_89) 0 y_152p90))), ((r 54), .inl (cI, 1100, .inl (upd j13_A4 y_89.toNatClampNeg (f52 0)))), ((r 55), .inl (cI, 1100, .inl (upd j13_A5 y_89.toNatClampNeg x1))), ((r 56), .inl (cI, 1100, .inl (upd j13_A6 y_89.toNatClampNeg (f50 0)))), ((r 57), .inl (cI, 1100, .inl (upd j13_A7 y_89.toNatClampNeg j143p90_S0)))]) hx hb hK hP hD hS 3 0 0 rfl rfl rfl (Nat.le_of_ble_eq_true rfl) (Nat.le_of_ble_eq_true rfl) rfl rfl dX7_writesDown_153 (fun H locs hP hD hS => ?_)
            exact k_rv B hP hD hS dX7_writesDown_154 ((fun _ => 0), (fun _ => 0), (fun k9 => match k9 with | 0 => (upd (upd f53 0 y_89) 0 y_152p90) | 1 => (upd j13_A4 y_89.toNatClampNeg (f52 0)) | 2 => (upd j13_A5 y_89.toNatClampNeg x1) | 3 => (upd j13_A6 y_89.toNatClampNeg (f50 0)) | 4 => (upd j13_A7 y_89.toNatClampNeg j143p90_S0) | _ => (fun _ => 0)), (fun _ => (fun _ => 0)), (fun _ => 0)) [0, 1, 2, 3, 4, 5, 6, 7] rfl rfl (Nat.le_of_ble_eq_true rfl) (Nat.le_of_ble_eq_true rfl) (show aR (upd (upd f53 0 y_89) 0 y_152p90) 0 50 from (aR_upd2 _ hf53 (iR_w f_152p90_1 (by decide +kernel))))
          refine lv_if_eq (tgt := 142) hx hb dX7_writesDown_135 (by decide) (fun c_135p90 => ?_) (fun c_135p90 => ?_)
          · have c_135p90 : x2 = 0 := c_135p90
            have f_142p90_4 : iR x2 0 0 := iR_eqL c_135p90 hx2 (iR_c (n := 0) (a := 0) (b := 0) (by decide +kernel) (by decide +kernel)) (by decide +kernel)
            refine lv_iconst (v := 0) hx hb dX7_writesDown_142 (by decide +kernel) ?_
            exact J_143p90 0 (iR_c (n := 0) (a := 0) (b := 1) (by decide +kernel) (by decide +kernel)) H locs ls hP hD hS (lv_sub hl [1] rfl)
          · have c_135p90 : ¬ x2 = 0 := c_135p90
            have f_138p90_4 : iR x2 1 1 := iR_neL c_135p90 hx2 (iR_c (n := 0) (a := 0) (b := 0) (by decide +kernel) (by decide +kernel)) (by decide +kernel)
            refine lv_iconst (v := 1) hx hb dX7_writesDown_138 (by decide +kernel) ?_
            refine lv_goto (tgt := 143) hx hb dX7_writesDown_139 (by decide) ?_
            exact J_143p90 1 (iR_c (n := 1) (a := 0) (b := 1) (by decide +kernel) (by decide +kernel)) H locs ls hP hD hS (lv_sub hl [1] rfl)
        · have c_16 : j13_L3 < 49 := i_nle c_16
          have f_19_1 : iR j13_L3 0 48 := iR_ltL c_16 hj13_L3 (iR_c (n := 49) (a := 49) (b := 49) (by decide +kernel) (by decide +kernel)) (by decide +kernel)
          refine lv_aload_n hx hb dX7_writesDown_19 rfl (lv_at hl 0 rfl) ?_
          refine k_get (D := (dC, dI)) (ci := 7) (v := .ref (r 54)) (C := RX7) (T := TX7) (N := 92) hx hb hts hinX7 hown hK hP 0 rfl rfl 54 (by decide) w_1 rfl rfl dX7_writesDown_20 ?_
          refine lv_iload_n hx hb dX7_writesDown_23 rfl (lv_at hl 3 rfl) ?_
          refine lv_aload_n hx hb dX7_writesDown_24 rfl (lv_at hl 0 rfl) ?_
          refine k_get (D := (dC, dI)) (ci := 7) (v := .ref (r 54)) (C := RX7) (T := TX7) (N := 92) hx hb hts hinX7 hown hK hP 0 rfl rfl 54 (by decide) w_1 rfl rfl dX7_writesDown_25 ?_
          refine lv_iload_n hx hb dX7_writesDown_28 rfl (lv_at hl 3 rfl) ?_
          refine lv_iconst (v := 1) hx hb dX7_writesDown_29 (by decide +kernel) ?_
          refine lv_iadd hx hb dX7_writesDown_30 ?_
          refine lv_topi (fun y_30 ey_30 => ?_)
          have f_30_2 : iR y_30 1 49 := iR_add ey_30 f_19_1 (iR_c (n := 1) (a := 1) (b := 1) (by decide +kernel) (by decide +kernel)) (by decide +kernel)
          refine va_iald hx hb hK hP 4 0 rfl rfl (iR_vp f_30_2 (by decide +kernel)) dX7_writesDown_31 ?_
          refine s_iast (g := (upd j13_A4 j13_L3.toNatClampNeg (j13_A4 y_30.toNatClampNeg))) (ws' := [(h, .inr (7, oM r i j)), ((r 50), .inl (cI, 22, .inl f50)), ((r 52), .inl (cI, 22, .inl f52)), ((r 53), .inl (cI, 22, .inl f53)), ((r 54), .inl (cI, 1100, .inl (upd j13_A4 j13_L3.toNatClampNeg (j13_A4 y_30.toNatClampNeg)))), ((r 55), .inl (cI, 1100, .inl j13_A5)), ((r 56), .inl (cI, 1100, .inl j13_A6)), ((r 57), .inl (cI, 1100, .inl j13_A7))]) hx hb hK hP hD hS 4 0 rfl rfl (iR_vp f_19_1 (by decide +kernel)) rfl rfl dX7_writesDown_32 (fun H locs hP hD hS => ?_)
          refine lv_aload_n hx hb dX7_writesDown_33 rfl (lv_at hl 0 rfl) ?_
          refine k_get (D := (dC, dI)) (ci := 7) (v := .ref (r 55)) (C := RX7) (T := TX7) (N := 92) hx hb hts hinX7 hown hK hP 0 rfl rfl 55 (by decide) w_3 rfl rfl dX7_writesDown_34 ?_
          refine lv_iload_n hx hb dX7_writesDown_37 rfl (lv_at hl 3 rfl) ?_
          refine lv_aload_n hx hb dX7_writesDown_38 rfl (lv_at hl 0 rfl) ?_
          refine k_get (D := (dC, dI)) (ci := 7) (v := .ref (r 55)) (C := RX7) (T := TX7) (N := 92) hx hb hts hinX7 hown hK hP 0 rfl rfl 55 (by decide) w_3 rfl rfl dX7_writesDown_39 ?_
          refine lv_iload_n hx hb dX7_writesDown_42 rfl (lv_at hl 3 rfl) ?_
          refine lv_iconst (v := 1) hx hb dX7_writesDown_43 (by decide +kernel) ?_
          refine lv_iadd hx hb dX7_writesDown_44 ?_
          refine lv_topi (fun y_44 ey_44 => ?_)
          have f_44_3 : iR y_44 1 49 := iR_add ey_44 f_19_1 (iR_c (n := 1) (a := 1) (b := 1) (by decide +kernel) (by decide +kernel)) (by decide +kernel)
          refine va_iald hx hb hK hP 5 0 rfl rfl (iR_vp f_44_3 (by decide +kernel)) dX7_writesDown_45 ?_
          refine s_iast (g := (upd j13_A5 j13_L3.toNatClampNeg (j13_A5 y_44.toNatClampNeg))) (ws' := [(h, .inr (7, oM r i j)), ((r 50), .inl (cI, 22, .inl f50)), ((r 52), .inl (cI, 22, .inl f52)), ((r 53), .inl (cI, 22, .inl f53)), ((r 54), .inl (cI, 1100, .inl (upd j13_A4 j13_L3.toNatClampNeg (j13_A4 y_30.toNatClampNeg)))), ((r 55), .inl (cI, 1100, .inl (upd j13_A5 j13_L3.toNatClampNeg (j13_A5 y_44.toNatClampNeg)))), ((r 56), .inl (cI, 1100, .inl j13_A6)), ((r 57), .inl (cI, 1100, .inl j13_A7))]) hx hb hK hP hD hS 5 0 rfl rfl (iR_vp f_19_1 (by decide +kernel)) rfl rfl dX7_writesDown_46 (fun H locs hP hD hS => ?_)
          refine lv_aload_n hx hb dX7_writesDown_47 rfl (lv_at hl 0 rfl) ?_
          refine k_get (D := (dC, dI)) (ci := 7) (v := .ref (r 56)) (C := RX7) (T := TX7) (N := 92) hx hb hts hinX7 hown hK hP 0 rfl rfl 56 (by decide) w_4 rfl rfl dX7_writesDown_48 ?_
          refine lv_iload_n hx hb dX7_writesDown_51 rfl (lv_at hl 3 rfl) ?_
          refine lv_aload_n hx hb dX7_writesDown_52 rfl (lv_at hl 0 rfl) ?_
          refine k_get (D := (dC, dI)) (ci := 7) (v := .ref (r 56)) (C := RX7) (T := TX7) (N := 92) hx hb hts hinX7 hown hK hP 0 rfl rfl 56 (by decide) w_4 rfl rfl dX7_writesDown_53 ?_
          refine lv_iload_n hx hb dX7_writesDown_56 rfl (lv_at hl 3 rfl) ?_
          refine lv_iconst (v := 1) hx hb dX7_writesDown_57 (by decide +kernel) ?_
          refine lv_iadd hx hb dX7_writesDown_58 ?_
          refine lv_topi (fun y_58 ey_58 => ?_)
          have f_58_4 : iR y_58 1 49 := iR_add ey_58 f_19_1 (iR_c (n := 1) (a := 1) (b := 1) (by decide +kernel) (by decide +kernel)) (by decide +kernel)
          refine va_iald hx hb hK hP 6 0 rfl rfl (iR_vp f_58_4 (by decide +kernel)) dX7_writesDown_59 ?_
          refine s_iast (g := (upd j13_A6 j13_L3.toNatClampNeg (j13_A6 y_58.toNatClampNeg))) (ws' := [(h, .inr (7, oM r i j)), ((r 50), .inl (cI, 22, .inl f50)), ((r 52), .inl (cI, 22, .inl f52)), ((r 53), .inl (cI, 22, .inl f53)), ((r 54), .inl (cI, 1100, .inl (upd j13_A4 j13_L3.toNatClampNeg (j13_A4 y_30.toNatClampNeg)))), ((r 55), .inl (cI, 1100, .inl (upd j13_A5 j13_L3.toNatClampNeg (j13_A5 y_44.toNatClampNeg)))), ((r 56), .inl (cI, 1100, .inl (upd j13_A6 j13_L3.toNatClampNeg (j13_A6 y_58.toNatClampNeg)))), ((r 57), .inl (cI, 1100, .inl j13_A7))]) hx hb hK hP hD hS 6 0 rfl rfl (iR_vp f_19_1 (by decide +kernel)) rfl rfl dX7_writesDown_60 (fun H locs hP hD hS => ?_)
          refine lv_aload_n hx hb dX7_writesDown_61 rfl (lv_at hl 0 rfl) ?_
          refine k_get (D := (dC, dI)) (ci := 7) (v := .ref (r 57)) (C := RX7) (T := TX7) (N := 92) hx hb hts hinX7 hown hK hP 0 rfl rfl 57 (by decide) w_6 rfl rfl dX7_writesDown_62 ?_
          refine lv_iload_n hx hb dX7_writesDown_65 rfl (lv_at hl 3 rfl) ?_
          refine lv_aload_n hx hb dX7_writesDown_66 rfl (lv_at hl 0 rfl) ?_
          refine k_get (D := (dC, dI)) (ci := 7) (v := .ref (r 57)) (C := RX7) (T := TX7) (N := 92) hx hb hts hinX7 hown hK hP 0 rfl rfl 57 (by decide) w_6 rfl rfl dX7_writesDown_67 ?_
          refine lv_iload_n hx hb dX7_writesDown_70 rfl (lv_at hl 3 rfl) ?_
          refine lv_iconst (v := 1) hx hb dX7_writesDown_71 (by decide +kernel) ?_
          refine lv_iadd hx hb dX7_writesDown_72 ?_
          refine lv_topi (fun y_72 ey_72 => ?_)
          have f_72_5 : iR y_72 1 49 := iR_add ey_72 f_19_1 (iR_c (n := 1) (a := 1) (b := 1) (by decide +kernel) (by decide +kernel)) (by decide +kernel)
          refine va_iald hx hb hK hP 7 0 rfl rfl (iR_vp f_72_5 (by decide +kernel)) dX7_writesDown_73 ?_
          refine s_iast (g := (upd j13_A7 j13_L3.toNatClampNeg (j13_A7 y_72.toNatClampNeg))) (ws' := [(h, .inr (7, oM r i j)), ((r 50), .inl (cI, 22, .inl f50)), ((r 52), .inl (cI, 22, .inl f52)), ((r 53), .inl (cI, 22, .inl f53)), ((r 54), .inl (cI, 1100, .inl (upd j13_A4 j13_L3.toNatClampNeg (j13_A4 y_30.toNatClampNeg)))), ((r 55), .inl (cI, 1100, .inl (upd j13_A5 j13_L3.toNatClampNeg (j13_A5 y_44.toNatClampNeg)))), ((r 56), .inl (cI, 1100, .inl (upd j13_A6 j13_L3.toNatClampNeg (j13_A6 y_58.toNatClampNeg)))), ((r 57), .inl (cI, 1100, .inl (upd j13_A7 j13_L3.toNatClampNeg (j13_A7 y_72.toNatClampNeg))))]) hx hb hK hP hD hS 7 0 rfl rfl (iR_vp f_19_1 (by decide +kernel)) rfl rfl dX7_writesDown_74 (fun H locs hP hD hS => ?_)
          obtain ⟨y_75, ey_75⟩ : ∃ y : Int32, y = j13_L3 + 1 := ⟨_, rfl⟩
          refine lv_iinc (v := y_75) (lv' := [(3, .int y_75), (0, .ref h), (1, .int x1), (2, .int x2)]) hx hb dX7_writesDown_75 hl (k := 3) rfl ey_75.symm (by decide) rfl (fun ls hl => ?_)
          have f_75_6 : iR y_75 1 49 := iR_add ey_75 f_19_1 (iR_c (n := 1) (a := 1) (b := 1) (by decide +kernel) (by decide +kernel)) (by decide +kernel)
          refine lv_goto (tgt := 13) hx hb dX7_writesDown_78 (by decide) ?_
          exact ih_13 (upd j13_A4 j13_L3.toNatClampNeg (j13_A4 y_30.toNatClampNeg)) (upd j13_A5 j13_L3.toNatClampNeg (j13_A5 y_44.toNatClampNeg)) (upd j13_A6 j13_L3.toNatClampNeg (j13_A6 y_58.toNatClampNeg)) (upd j13_A7 j13_L3.toNatClampNeg (j13_A7 y_72.toNatClampNeg)) y_75 (iR_w f_75_6 (by decide +kernel)) (m_up (B := 49) hm_13 ey_75 f_19_1 (by decide +kernel)) H locs ls hP hD hS (lv_sub hl [1, 2, 3, 0] rfl)
    refine lv_istore_n (lv' := [(3, .int 0), (0, .ref h), (1, .int x1), (2, .int x2)]) hx hb dX7_writesDown_12 rfl hl (by decide) rfl (fun ls hl => ?_)
    exact J_13 _ f54 f55 f56 f57 0 (iR_c (n := 0) (a := 0) (b := 49) (by decide +kernel) (by decide +kernel)) (Nat.lt_succ_self _) H locs ls hP hD hS (lv_sub hl [1, 2, 3, 0] rfl)
