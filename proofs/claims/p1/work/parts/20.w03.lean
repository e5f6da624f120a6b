set_option maxHeartbeats 4000000 in
set_option maxRecDepth 100000 in
theorem c_X7_asks_v0 (l : Launch) (dC : Nat → ClassId) (dI : Nat → Nat → Nat) (cI cJ cZ cM : ClassId) (p0 : Nat) (p1 : Nat → Nat)   : k_Mv l yX7_asks wsX7_asks ({ frames := 1, cells := 0, slots := 0, locals := 40 }) (dC, dI) vwCl (tyy cI cJ cZ cM) [(p0, .inr (7, oM p1 i7 j7))] [.ref p0, .int 0, .int 0, .int 0, .int 0] 0 0 (fun (u9 : Unit) => [(p0, .inr (7, oM p1 (upd (upd (upd (upd i7 62 0) 63 0) 64 0) 65 0) j7))]) (fun (u9 : Unit) => True) := by
  refine fun sz => k_enter (cc := cX7_asks) (maxL := 5) (ret := none) (Qc := fun A => va_Qv (fun (u9 : Unit) => True) (fun u => k_B (dC, dI) vwCl (tyy cI cJ cZ cM) A ((fun (u9 : Unit) => [(p0, .inr (7, oM p1 (upd (upd (upd (upd i7 62 0) 63 0) 64 0) 65 0) j7))]) u)) A) sz (by decide +kernel) rfl (Nat.le_of_ble_eq_true rfl) (fun p e s m args below meth c A ls H locs B hP hD hS hl => ?_)
  obtain ⟨hx, hb, hml, hown, hts, hr, hlk, hnm, hK, hA, hN, hC⟩ := id B
  have hown : s.vm.findClass RX7 = some m.cls := hown
  have hl : lv_has ls 5 [(0, .ref p0), (1, .int 0), (2, .int 0), (3, .int 0), (4, .int 0)] := hl
  have w_0 : (Cond.fieldLink RX7 201 "WishSeaModel" "askedHad" "I").before args s = true := hts _ (List.mem_of_getElem? (i := 1) rfl)
  have w_1 : (Cond.fieldLink RX7 204 "WishSeaModel" "askedSea" "I").before args s = true := hts _ (List.mem_of_getElem? (i := 2) rfl)
  have w_2 : (Cond.fieldLink RX7 207 "WishSeaModel" "askedSaid" "I").before args s = true := hts _ (List.mem_of_getElem? (i := 3) rfl)
  have w_3 : (Cond.fieldLink RX7 210 "WishSeaModel" "askedDay" "I").before args s = true := hts _ (List.mem_of_getElem? (i := 4) rfl)
  have hinX7 : ∀ w ∈ u_ws RX7 TX7 92, w ∈ wsX7_asks := fun _ h => List.mem_cons_of_mem _ (List.mem_append_right _ h)
  refine lv_aload_n hx hb dX7_asks_0 rfl (lv_at hl 0 rfl) ?_
  refine lv_iload_n hx hb dX7_asks_1 rfl (lv_at hl 1 rfl) ?_
  refine k_put (D := (dC, dI)) (ci := 7) (v := .int 0) (C := RX7) (T := TX7) (N := 92) (ws' := [(p0, .inr (7, oM p1 (upd i7 62 0) j7))]) hx hb hts hinX7 tyX7 tyX7_ok nmX7 hown hK hP hD hS 0 rfl rfl 62 (by decide) w_0 rfl rfl rfl rfl (Nat.le_of_ble_eq_true rfl) rfl dX7_asks_2 (fun H locs hP hD hS => ?_)
  refine lv_aload_n hx hb dX7_asks_5 rfl (lv_at hl 0 rfl) ?_
  refine lv_iload_n hx hb dX7_asks_6 rfl (lv_at hl 2 rfl) ?_
  refine k_put (D := (dC, dI)) (ci := 7) (v := .int 0) (C := RX7) (T := TX7) (N := 92) (ws' := [(p0, .inr (7, oM p1 (upd (upd i7 62 0) 63 0) j7))]) hx hb hts hinX7 tyX7 tyX7_ok nmX7 hown hK hP hD hS 0 rfl rfl 63 (by decide) w_1 rfl rfl rfl rfl (Nat.le_of_ble_eq_true rfl) rfl dX7_asks_7 (fun H locs hP hD hS => ?_)
  refine lv_aload_n hx hb dX7_asks_10 rfl (lv_at hl 0 rfl) ?_
  refine lv_iload_n hx hb dX7_asks_11 rfl (lv_at hl 3 rfl) ?_
  refine k_put (D := (dC, dI)) (ci := 7) (v := .int 0) (C := RX7) (T := TX7) (N := 92) (ws' := [(p0, .inr (7, oM p1 (upd (upd (upd i7 62 0) 63 0) 64 0) j7))]) hx hb hts hinX7 tyX7 tyX7_ok nmX7 hown hK hP hD hS 0 rfl rfl 64 (by decide) w_2 rfl rfl rfl rfl (Nat.le_of_ble_eq_true rfl) rfl dX7_asks_12 (fun H locs hP hD hS => ?_)
  refine lv_aload_n hx hb dX7_asks_15 rfl (lv_at hl 0 rfl) ?_
  refine lv_iload hx hb dX7_asks_16 (lv_at hl 4 rfl) ?_
  refine k_put (D := (dC, dI)) (ci := 7) (v := .int 0) (C := RX7) (T := TX7) (N := 92) (ws' := [(p0, .inr (7, oM p1 (upd (upd (upd (upd i7 62 0) 63 0) 64 0) 65 0) j7))]) hx hb hts hinX7 tyX7 tyX7_ok nmX7 hown hK hP hD hS 0 rfl rfl 65 (by decide) w_3 rfl rfl rfl rfl (Nat.le_of_ble_eq_true rfl) rfl dX7_asks_18 (fun H locs hP hD hS => ?_)
  exact k_rv B hP hD hS dX7_asks_21 () [0] rfl rfl (Nat.le_of_ble_eq_true rfl) (Nat.le_of_ble_eq_true rfl) trivial
set_option maxHeartbeats 4000000 in
set_option maxRecDepth 100000 in
theorem c_X7_asksLayer_v0 (l : Launch) (dC : Nat → ClassId) (dI : Nat → Nat → Nat) (cI cJ cZ cM : ClassId) (p0 : Nat) (p1 : Nat → Nat)   : k_Mv l yX7_asksLayer wsX7_asksLayer ({ frames := 2, cells := 0, slots := 0, locals := 64 }) (dC, dI) vwCl (tyy cI cJ cZ cM) [(p0, .inr (7, oM p1 i7 j7)), ((p1 49), .inl (cI, 22, .inl (fun _ => 0))), ((p1 50), .inl (cI, 22, .inl (fun _ => 0))), ((p1 51), .inl (cI, 22, .inl (fun _ => 0))), ((p1 52), .inl (cI, 22, .inl (fun _ => 0)))] [.ref p0, .int 0] 0 0 (fun (u9 : Unit) => [(p0, .inr (7, oM p1 (upd (upd (upd (upd i7 62 0) 63 0) 64 0) 65 0) j7)), ((p1 49), .inl (cI, 22, .inl (fun _ => 0))), ((p1 50), .inl (cI, 22, .inl (fun _ => 0))), ((p1 51), .inl (cI, 22, .inl (fun _ => 0))), ((p1 52), .inl (cI, 22, .inl (fun _ => 0)))]) (fun (u9 : Unit) => True) := by
  refine fun sz => k_enter (cc := cX7_asksLayer) (maxL := 2) (ret := none) (Qc := fun A => va_Qv (fun (u9 : Unit) => True) (fun u => k_B (dC, dI) vwCl (tyy cI cJ cZ cM) A ((fun (u9 : Unit) => [(p0, .inr (7, oM p1 (upd (upd (upd (upd i7 62 0) 63 0) 64 0) 65 0) j7)), ((p1 49), .inl (cI, 22, .inl (fun _ => 0))), ((p1 50), .inl (cI, 22, .inl (fun _ => 0))), ((p1 51), .inl (cI, 22, .inl (fun _ => 0))), ((p1 52), .inl (cI, 22, .inl (fun _ => 0)))]) u)) A) sz (by decide +kernel) rfl (Nat.le_of_ble_eq_true rfl) (fun p e s m args below meth c A ls H locs B hP hD hS hl => ?_)
  obtain ⟨hx, hb, hml, hown, hts, hr, hlk, hnm, hK, hA, hN, hC⟩ := id B
  have hown : s.vm.findClass RX7 = some m.cls := hown
  have hl : lv_has ls 2 [(0, .ref p0), (1, .int 0)] := hl
  have w_0 : (Cond.fieldLink RX7 162 "WishSeaModel" "hadOf" "[I").before args s = true := hts _ (List.mem_of_getElem? (i := 1) rfl)
  have w_1 : (Cond.fieldLink RX7 165 "WishSeaModel" "seaOf" "[I").before args s = true := hts _ (List.mem_of_getElem? (i := 2) rfl)
  have w_2 : (Cond.fieldLink RX7 168 "WishSeaModel" "saidOf" "[I").before args s = true := hts _ (List.mem_of_getElem? (i := 3) rfl)
  have w_3 : (Cond.fieldLink RX7 171 "WishSeaModel" "dayOf" "[I").before args s = true := hts _ (List.mem_of_getElem? (i := 4) rfl)
  have hinX7 : ∀ w ∈ u_ws RX7 TX7 92, w ∈ wsX7_asksLayer := fun _ h => List.mem_cons_of_mem _ (List.mem_append_right _ h)
  refine lv_aload_n hx hb dX7_asksLayer_0 rfl (lv_at hl 0 rfl) ?_
  refine lv_aload_n hx hb dX7_asksLayer_1 rfl (lv_at hl 0 rfl) ?_
  refine k_get (D := (dC, dI)) (ci := 7) (v := .ref (p1 49)) (C := RX7) (T := TX7) (N := 92) hx hb hts hinX7 hown hK hP 0 rfl rfl 49 (by decide) w_0 rfl rfl dX7_asksLayer_2 ?_
  refine lv_iload_n hx hb dX7_asksLayer_5 rfl (lv_at hl 1 rfl) ?_
  refine k_iald (v := 0) hx hb hK hP 1 0 0 rfl rfl rfl (Nat.le_of_ble_eq_true rfl) (Nat.le_of_ble_eq_true rfl) rfl dX7_asksLayer_6 ?_
  refine lv_aload_n hx hb dX7_asksLayer_7 rfl (lv_at hl 0 rfl) ?_
  refine k_get (D := (dC, dI)) (ci := 7) (v := .ref (p1 50)) (C := RX7) (T := TX7) (N := 92) hx hb hts hinX7 hown hK hP 0 rfl rfl 50 (by decide) w_1 rfl rfl dX7_asksLayer_8 ?_
  refine lv_iload_n hx hb dX7_asksLayer_11 rfl (lv_at hl 1 rfl) ?_
  refine k_iald (v := 0) hx hb hK hP 2 0 0 rfl rfl rfl (Nat.le_of_ble_eq_true rfl) (Nat.le_of_ble_eq_true rfl) rfl dX7_asksLayer_12 ?_
  refine lv_aload_n hx hb dX7_asksLayer_13 rfl (lv_at hl 0 rfl) ?_
  refine k_get (D := (dC, dI)) (ci := 7) (v := .ref (p1 51)) (C := RX7) (T := TX7) (N := 92) hx hb hts hinX7 hown hK hP 0 rfl rfl 51 (by decide) w_2 rfl rfl dX7_asksLayer_14 ?_
  refine lv_iload_n hx hb dX7_asksLayer_17 rfl (lv_at hl 1 rfl) ?_
  refine k_iald (v := 0) hx hb hK hP 3 0 0 rfl rfl rfl (Nat.le_of_ble_eq_true rfl) (Nat.le_of_ble_eq_true rfl) rfl dX7_asksLayer_18 ?_
  refine lv_aload_n hx hb dX7_asksLayer_19 rfl (lv_at hl 0 rfl) ?_
  refine k_get (D := (dC, dI)) (ci := 7) (v := .ref (p1 52)) (C := RX7) (T := TX7) (N := 92) hx hb hts hinX7 hown hK hP 0 rfl rfl 52 (by decide) w_3 rfl rfl dX7_asksLayer_20 ?_
  refine lv_iload_n hx hb dX7_asksLayer_23 rfl (lv_at hl 1 rfl) ?_
  refine k_iald (v := 0) hx hb hK hP 4 0 0 rfl rfl rfl (Nat.le_of_ble_eq_true rfl) (Nat.le_of_ble_eq_true rfl) rfl dX7_asksLayer_24 ?_
  refine k_cv (wc := [(p0, .inr (7, oM p1 i7 j7))]) (wr := [((p1 49), .inl (cI, 22, .inl (fun _ => 0))), ((p1 50), .inl (cI, 22, .inl (fun _ => 0))), ((p1 51), .inl (cI, 22, .inl (fun _ => 0))), ((p1 52), .inl (cI, 22, .inl (fun _ => 0)))]) (fun hPc hDc hFc => va_runV (As := [.int 0, .int 0, .int 0, .int 0]) (rest := []) ⟨hx, hb, hml, hown, hts⟩ (c_X7_asks_v0 l dC dI cI cJ cZ cM p0 p1 H.size) (cwV 4 hts gX7_asksLayer_X7_asks rfl rfl rfl (by decide +kernel) ⟨(Nat.le_of_ble_eq_true rfl), (Nat.le_of_ble_eq_true rfl)⟩) (k_pV hPc hDc hK hN hC hS hFc hP (q0 := 0) (ci := 7) rfl rfl) rfl rfl hl.1 rfl (lv_room (Nat.le_of_ble_eq_true rfl)) dX7_asksLayer_25 ⟨(Nat.le_of_ble_eq_true rfl), (Nat.le_of_ble_eq_true rfl)⟩) hP hD hS hA [0] [1, 2, 3, 4] rfl rfl rfl rfl (by decide) (fun _ => rfl) 0 0 rfl rfl (fun u_2 H locs hw hP hD hS => ?_)
  have hP : va_P (dC, dI) vwCl [((p1 49), .inl (cI, 22, .inl (fun _ => 0))), ((p1 50), .inl (cI, 22, .inl (fun _ => 0))), ((p1 51), .inl (cI, 22, .inl (fun _ => 0))), ((p1 52), .inl (cI, 22, .inl (fun _ => 0))), (p0, .inr (7, oM p1 (upd (upd (upd (upd i7 62 0) 63 0) 64 0) 65 0) j7))] H := hP
  have hD : va_D A [((p1 49), .inl (cI, 22, .inl (fun _ => 0))), ((p1 50), .inl (cI, 22, .inl (fun _ => 0))), ((p1 51), .inl (cI, 22, .inl (fun _ => 0))), ((p1 52), .inl (cI, 22, .inl (fun _ => 0))), (p0, .inr (7, oM p1 (upd (upd (upd (upd i7 62 0) 63 0) 64 0) 65 0) j7))] := hD
  exact k_rv B hP hD hS dX7_asksLayer_28 () [4, 0, 1, 2, 3] rfl rfl (Nat.le_of_ble_eq_true rfl) (Nat.le_of_ble_eq_true rfl) trivial
set_option maxHeartbeats 4000000 in
set_option maxRecDepth 100000 in
theorem c_X7_has_v0 (l : Launch) (dC : Nat → ClassId) (dI : Nat → Nat → Nat) (cI cJ cZ cM : ClassId) (p0 : Nat) (p1 : Int32) (p2 : Nat → Nat) (b_0 : 0 ≤ p1.toInt) (t_0 : p1.toInt ≤ 0)  : k_Mi l yX7_has wsX7_has ({ frames := 3, cells := 0, slots := 0, locals := 85 }) (dC, dI) vwCl (tyy cI cJ cZ cM) [(p0, .inr (7, oM p2 i7 j7)), ((p2 49), .inl (cI, 22, .inl (fun _ => 0))), ((p2 50), .inl (cI, 22, .inl (fun _ => 0))), ((p2 51), .inl (cI, 22, .inl (fun _ => 0))), ((p2 52), .inl (cI, 22, .inl (fun _ => 0))), ((p2 14), .inl (cI, 2, .inl (fun _ => 0)))] [.ref p0, .int p1] 0 0 (fun (u9 : Unit) => [(p0, .inr (7, oM p2 (upd (upd (upd (upd i7 62 0) 63 0) 64 0) 65 0) j7)), ((p2 49), .inl (cI, 22, .inl (fun _ => 0))), ((p2 50), .inl (cI, 22, .inl (fun _ => 0))), ((p2 51), .inl (cI, 22, .inl (fun _ => 0))), ((p2 52), .inl (cI, 22, .inl (fun _ => 0))), ((p2 14), .inl (cI, 2, .inl (fun _ => 0)))]) (fun (r9 : Int32) (u9 : Unit) => r9 = 0) := by
  refine fun sz => k_enter (cc := cX7_has) (maxL := 2) (ret := some (.int)) (Qc := fun A => va_Qi (fun (r9 : Int32) (u9 : Unit) => r9 = 0) (fun u => k_B (dC, dI) vwCl (tyy cI cJ cZ cM) A ((fun (u9 : Unit) => [(p0, .inr (7, oM p2 (upd (upd (upd (upd i7 62 0) 63 0) 64 0) 65 0) j7)), ((p2 49), .inl (cI, 22, .inl (fun _ => 0))), ((p2 50), .inl (cI, 22, .inl (fun _ => 0))), ((p2 51), .inl (cI, 22, .inl (fun _ => 0))), ((p2 52), .inl (cI, 22, .inl (fun _ => 0))), ((p2 14), .inl (cI, 2, .inl (fun _ => 0)))]) u)) A) sz (by decide +kernel) rfl (Nat.le_of_ble_eq_true rfl) (fun p e s m args below meth c A ls H locs B hP hD hS hl => ?_)
  obtain ⟨hx, hb, hml, hown, hts, hr, hlk, hnm, hK, hA, hN, hC⟩ := id B
  have hown : s.vm.findClass RX7 = some m.cls := hown
  have hl : lv_has ls 2 [(0, .ref p0), (1, .int p1)] := hl
  have w_0 : (Cond.fieldLink RX7 54 "WishSeaModel" "things" "[I").before args s = true := hts _ (List.mem_of_getElem? (i := 1) rfl)
  have w_1 : (Cond.fieldLink RX7 51 "WishSeaModel" "bank" "I").before args s = true := hts _ (List.mem_of_getElem? (i := 2) rfl)
  have hinX7 : ∀ w ∈ u_ws RX7 TX7 92, w ∈ wsX7_has := fun _ h => List.mem_cons_of_mem _ (List.mem_append_right _ h)
  rcases (show p1.toInt = 0 by omega) with c_1
  obtain rfl : p1 = 0 := k_eqL (by decide +kernel) c_1
  refine lv_aload_n hx hb dX7_has_0 rfl (lv_at hl 0 rfl) ?_
  refine lv_iconst (v := 0) hx hb dX7_has_1 (by decide +kernel) ?_
  refine k_cv (wc := [(p0, .inr (7, oM p2 i7 j7)), ((p2 49), .inl (cI, 22, .inl (fun _ => 0))), ((p2 50), .inl (cI, 22, .inl (fun _ => 0))), ((p2 51), .inl (cI, 22, .inl (fun _ => 0))), ((p2 52), .inl (cI, 22, .inl (fun _ => 0)))]) (wr := [((p2 14), .inl (cI, 2, .inl (fun _ => 0)))]) (fun hPc hDc hFc => va_runV (As := [.int 0]) (rest := []) ⟨hx, hb, hml, hown, hts⟩ (c_X7_asksLayer_v0 l dC dI cI cJ cZ cM p0 p2 H.size) (cwV 1 hts gX7_has_X7_asksLayer rfl rfl rfl (by decide +kernel) ⟨(Nat.le_of_ble_eq_true rfl), (Nat.le_of_ble_eq_true rfl)⟩) (k_pV hPc hDc hK hN hC hS hFc hP (q0 := 0) (ci := 7) rfl rfl) rfl rfl hl.1 rfl (lv_room (Nat.le_of_ble_eq_true rfl)) dX7_has_2 ⟨(Nat.le_of_ble_eq_true rfl), (Nat.le_of_ble_eq_true rfl)⟩) hP hD hS hA [0, 1, 2, 3, 4] [5] rfl rfl rfl rfl (by decide) (fun _ => rfl) 0 0 rfl rfl (fun u_3 H locs hw hP hD hS => ?_)
  have hP : va_P (dC, dI) vwCl [((p2 14), .inl (cI, 2, .inl (fun _ => 0))), (p0, .inr (7, oM p2 (upd (upd (upd (upd i7 62 0) 63 0) 64 0) 65 0) j7)), ((p2 49), .inl (cI, 22, .inl (fun _ => 0))), ((p2 50), .inl (cI, 22, .inl (fun _ => 0))), ((p2 51), .inl (cI, 22, .inl (fun _ => 0))), ((p2 52), .inl (cI, 22, .inl (fun _ => 0)))] H := hP
  have hD : va_D A [((p2 14), .inl (cI, 2, .inl (fun _ => 0))), (p0, .inr (7, oM p2 (upd (upd (upd (upd i7 62 0) 63 0) 64 0) 65 0) j7)), ((p2 49), .inl (cI, 22, .inl (fun _ => 0))), ((p2 50), .inl (cI, 22, .inl (fun _ => 0))), ((p2 51), .inl (cI, 22, .inl (fun _ => 0))), ((p2 52), .inl (cI, 22, .inl (fun _ => 0)))] := hD
  refine lv_iload_n hx hb dX7_has_5 rfl (lv_at hl 1 rfl) ?_
  refine lv_tableIn (off := 70) (tgt := 76) hx hb dX7_has_6 (by decide +kernel) (by decide +kernel) (by decide +kernel) (by decide +kernel) ?_
  refine lv_aload_n hx hb dX7_has_76 rfl (lv_at hl 0 rfl) ?_
  refine k_get (D := (dC, dI)) (ci := 7) (v := .ref (p2 14)) (C := RX7) (T := TX7) (N := 92) hx hb hts hinX7 hown hK hP 1 rfl rfl 14 (by decide) w_0 rfl rfl dX7_has_77 ?_
  refine lv_aload_n hx hb dX7_has_80 rfl (lv_at hl 0 rfl) ?_
  refine k_get (D := (dC, dI)) (ci := 7) (v := .int 0) (C := RX7) (T := TX7) (N := 92) hx hb hts hinX7 hown hK hP 1 rfl rfl 13 (by decide) w_1 rfl rfl dX7_has_81 ?_
  refine k_iald (v := 0) hx hb hK hP 0 0 0 rfl rfl rfl (Nat.le_of_ble_eq_true rfl) (Nat.le_of_ble_eq_true rfl) rfl dX7_has_84 ?_
  exact k_ri B hP hD hS dX7_has_85 () [1, 2, 3, 4, 5, 0] rfl rfl rfl (Nat.le_of_ble_eq_true rfl) (Nat.le_of_ble_eq_true rfl) rfl
set_option maxHeartbeats 4000000 in
set_option maxRecDepth 100000 in
theorem c_X7_has_v1 (l : Launch) (dC : Nat → ClassId) (dI : Nat → Nat → Nat) (cI cJ cZ cM : ClassId) (p0 : Nat) (p1 : Int32) (p2 : Nat → Nat) (b_0 : 1 ≤ p1.toInt) (t_0 : p1.toInt ≤ 1)  : k_Mi l yX7_has wsX7_has ({ frames := 3, cells := 0, slots := 0, locals := 85 }) (dC, dI) vwCl (tyy cI cJ cZ cM) [(p0, .inr (7, oM p2 i7 j7)), ((p2 49), .inl (cI, 22, .inl (fun _ => 0))), ((p2 50), .inl (cI, 22, .inl (fun _ => 0))), ((p2 51), .inl (cI, 22, .inl (fun _ => 0))), ((p2 52), .inl (cI, 22, .inl (fun _ => 0))), ((p2 18), .inl (cI, 2, .inl (fun _ => 0)))] [.ref p0, .int p1] 0 0 (fun (u9 : Unit) => [(p0, .inr (7, oM p2 (upd (upd (upd (upd i7 62 0) 63 0) 64 0) 65 0) j7)), ((p2 49), .inl (cI, 22, .inl (fun _ => 0))), ((p2 50), .inl (cI, 22, .inl (fun _ => 0))), ((p2 51), .inl (cI, 22, .inl (fun _ => 0))), ((p2 52), .inl (cI, 22, .inl (fun _ => 0))), ((p2 18), .inl (cI, 2, .inl (fun _ => 0)))]) (fun (r9 : Int32) (u9 : Unit) => r9 = 0) := by
  refine fun sz => k_enter (cc := cX7_has) (maxL := 2) (ret := some (.int)) (Qc := fun A => va_Qi (fun (r9 : Int32) (u9 : Unit) => r9 = 0) (fun u => k_B (dC, dI) vwCl (tyy cI cJ cZ cM) A ((fun (u9 : Unit) => [(p0, .inr (7, oM p2 (upd (upd (upd (upd i7 62 0) 63 0) 64 0) 65 0) j7)), ((p2 49), .inl (cI, 22, .inl (fun _ => 0))), ((p2 50), .inl (cI, 22, .inl (fun _ => 0))), ((p2 51), .inl (cI, 22, .inl (fun _ => 0))), ((p2 52), .inl (cI, 22, .inl (fun _ => 0))), ((p2 18), .inl (cI, 2, .inl (fun _ => 0)))]) u)) A) sz (by decide +kernel) rfl (Nat.le_of_ble_eq_true rfl) (fun p e s m args below meth c A ls H locs B hP hD hS hl => ?_)
  obtain ⟨hx, hb, hml, hown, hts, hr, hlk, hnm, hK, hA, hN, hC⟩ := id B
  have hown : s.vm.findClass RX7 = some m.cls := hown
  have hl : lv_has ls 2 [(0, .ref p0), (1, .int p1)] := hl
  have w_0 : (Cond.fieldLink RX7 66 "WishSeaModel" "wishes" "[I").before args s = true := hts _ (List.mem_of_getElem? (i := 3) rfl)
  have w_1 : (Cond.fieldLink RX7 51 "WishSeaModel" "bank" "I").before args s = true := hts _ (List.mem_of_getElem? (i := 2) rfl)
  have hinX7 : ∀ w ∈ u_ws RX7 TX7 92, w ∈ wsX7_has := fun _ h => List.mem_cons_of_mem _ (List.mem_append_right _ h)
  rcases (show p1.toInt = 1 by omega) with c_1
  obtain rfl : p1 = 1 := k_eqL (by decide +kernel) c_1
  refine lv_aload_n hx hb dX7_has_0 rfl (lv_at hl 0 rfl) ?_
  refine lv_iconst (v := 0) hx hb dX7_has_1 (by decide +kernel) ?_
  refine k_cv (wc := [(p0, .inr (7, oM p2 i7 j7)), ((p2 49), .inl (cI, 22, .inl (fun _ => 0))), ((p2 50), .inl (cI, 22, .inl (fun _ => 0))), ((p2 51), .inl (cI, 22, .inl (fun _ => 0))), ((p2 52), .inl (cI, 22, .inl (fun _ => 0)))]) (wr := [((p2 18), .inl (cI, 2, .inl (fun _ => 0)))]) (fun hPc hDc hFc => va_runV (As := [.int 0]) (rest := []) ⟨hx, hb, hml, hown, hts⟩ (c_X7_asksLayer_v0 l dC dI cI cJ cZ cM p0 p2 H.size) (cwV 1 hts gX7_has_X7_asksLayer rfl rfl rfl (by decide +kernel) ⟨(Nat.le_of_ble_eq_true rfl), (Nat.le_of_ble_eq_true rfl)⟩) (k_pV hPc hDc hK hN hC hS hFc hP (q0 := 0) (ci := 7) rfl rfl) rfl rfl hl.1 rfl (lv_room (Nat.le_of_ble_eq_true rfl)) dX7_has_2 ⟨(Nat.le_of_ble_eq_true rfl), (Nat.le_of_ble_eq_true rfl)⟩) hP hD hS hA [0, 1, 2, 3, 4] [5] rfl rfl rfl rfl (by decide) (fun _ => rfl) 0 0 rfl rfl (fun u_3 H locs hw hP hD hS => ?_)
  have hP : va_P (dC, dI) vwCl [((p2 18), .inl (cI, 2, .inl (fun _ => 0))), (p0, .inr (7, oM p2 (upd (upd (upd (upd i7 62 0) 63 0) 64 0) 65 0) j7)), ((p2 49), .inl (cI, 22, .inl (fun _ => 0))), ((p2 50), .inl (cI, 22, .inl (fun _ => 0))), ((p2 51), .inl (cI, 22, .inl (fun _ => 0))), ((p2 52), .inl (cI, 22, .inl (fun _ => 0)))] H := hP
  have hD : va_D A [((p2 18), .inl (cI, 2, .inl (fun _ => 0))), (p0, .inr (7, oM p2 (upd (upd (upd (upd i7 62 0) 63 0) 64 0) 65 0) j7)), ((p2 49), .inl (cI, 22, .inl (fun _ => 0))), ((p2 50), .inl (cI, 22, .inl (fun _ => 0))), ((p2 51), .inl (cI, 22, .inl (fun _ => 0))), ((p2 52), .inl (cI, 22, .inl (fun _ => 0)))] := hD
  refine lv_iload_n hx hb dX7_has_5 rfl (lv_at hl 1 rfl) ?_
  refine lv_tableIn (off := 80) (tgt := 86) hx hb dX7_has_6 (by decide +kernel) (by decide +kernel) (by decide +kernel) (by decide +kernel) ?_
  refine lv_aload_n hx hb dX7_has_86 rfl (lv_at hl 0 rfl) ?_
  refine k_get (D := (dC, dI)) (ci := 7) (v := .ref (p2 18)) (C := RX7) (T := TX7) (N := 92) hx hb hts hinX7 hown hK hP 1 rfl rfl 18 (by decide) w_0 rfl rfl dX7_has_87 ?_
  refine lv_aload_n hx hb dX7_has_90 rfl (lv_at hl 0 rfl) ?_
  refine k_get (D := (dC, dI)) (ci := 7) (v := .int 0) (C := RX7) (T := TX7) (N := 92) hx hb hts hinX7 hown hK hP 1 rfl rfl 13 (by decide) w_1 rfl rfl dX7_has_91 ?_
  refine k_iald (v := 0) hx hb hK hP 0 0 0 rfl rfl rfl (Nat.le_of_ble_eq_true rfl) (Nat.le_of_ble_eq_true rfl) rfl dX7_has_94 ?_
  exact k_ri B hP hD hS dX7_has_95 () [1, 2, 3, 4, 5, 0] rfl rfl rfl (Nat.le_of_ble_eq_true rfl) (Nat.le_of_ble_eq_true rfl) rfl
set_option maxHeartbeats 4000000 in
set_option maxRecDepth 100000 in
theorem c_X7_has_v2 (l : Launch) (dC : Nat → ClassId) (dI : Nat → Nat → Nat) (cI cJ cZ cM : ClassId) (p0 : Nat) (p1 : Int32) (p2 : Nat → Nat) (b_0 : 2 ≤ p1.toInt) (t_0 : p1.toInt ≤ 2)  : k_Mi l yX7_has wsX7_has ({ frames := 3, cells := 0, slots := 0, locals := 85 }) (dC, dI) vwCl (tyy cI cJ cZ cM) [(p0, .inr (7, oM p2 i7 j7)), ((p2 49), .inl (cI, 22, .inl (fun _ => 0))), ((p2 50), .inl (cI, 22, .inl (fun _ => 0))), ((p2 51), .inl (cI, 22, .inl (fun _ => 0))), ((p2 52), .inl (cI, 22, .inl (fun _ => 0)))] [.ref p0, .int p1] 0 0 (fun (u9 : Unit) => [(p0, .inr (7, oM p2 (upd (upd (upd (upd i7 62 0) 63 0) 64 0) 65 0) j7)), ((p2 49), .inl (cI, 22, .inl (fun _ => 0))), ((p2 50), .inl (cI, 22, .inl (fun _ => 0))), ((p2 51), .inl (cI, 22, .inl (fun _ => 0))), ((p2 52), .inl (cI, 22, .inl (fun _ => 0)))]) (fun (r9 : Int32) (u9 : Unit) => r9 = 0) := by
  refine fun sz => k_enter (cc := cX7_has) (maxL := 2) (ret := some (.int)) (Qc := fun A => va_Qi (fun (r9 : Int32) (u9 : Unit) => r9 = 0) (fun u => k_B (dC, dI) vwCl (tyy cI cJ cZ cM) A ((fun (u9 : Unit) => [(p0, .inr (7, oM p2 (upd (upd (upd (upd i7 62 0) 63 0) 64 0) 65 0) j7)), ((p2 49), .inl (cI, 22, .inl (fun _ => 0))), ((p2 50), .inl (cI, 22, .inl (fun _ => 0))), ((p2 51), .inl (cI, 22, .inl (fun _ => 0))), ((p2 52), .inl (cI, 22, .inl (fun _ => 0)))]) u)) A) sz (by decide +kernel) rfl (Nat.le_of_ble_eq_true rfl) (fun p e s m args below meth c A ls H locs B hP hD hS hl => ?_)
  obtain ⟨hx, hb, hml, hown, hts, hr, hlk, hnm, hK, hA, hN, hC⟩ := id B
  have hown : s.vm.findClass RX7 = some m.cls := hown
  have hl : lv_has ls 2 [(0, .ref p0), (1, .int p1)] := hl
  have w_0 : (Cond.fieldLink RX7 162 "WishSeaModel" "hadOf" "[I").before args s = true := hts _ (List.mem_of_getElem? (i := 4) rfl)
  have hinX7 : ∀ w ∈ u_ws RX7 TX7 92, w ∈ wsX7_has := fun _ h => List.mem_cons_of_mem _ (List.mem_append_right _ h)
  rcases (show p1.toInt = 2 by omega) with c_1
  obtain rfl : p1 = 2 := k_eqL (by decide +kernel) c_1
  refine lv_aload_n hx hb dX7_has_0 rfl (lv_at hl 0 rfl) ?_
  refine lv_iconst (v := 0) hx hb dX7_has_1 (by decide +kernel) ?_
  refine k_cv (wc := [(p0, .inr (7, oM p2 i7 j7)), ((p2 49), .inl (cI, 22, .inl (fun _ => 0))), ((p2 50), .inl (cI, 22, .inl (fun _ => 0))), ((p2 51), .inl (cI, 22, .inl (fun _ => 0))), ((p2 52), .inl (cI, 22, .inl (fun _ => 0)))]) (wr := []) (fun hPc hDc hFc => va_runV (As := [.int 0]) (rest := []) ⟨hx, hb, hml, hown, hts⟩ (c_X7_asksLayer_v0 l dC dI cI cJ cZ cM p0 p2 H.size) (cwV 1 hts gX7_has_X7_asksLayer rfl rfl rfl (by decide +kernel) ⟨(Nat.le_of_ble_eq_true rfl), (Nat.le_of_ble_eq_true rfl)⟩) (k_pV hPc hDc hK hN hC hS hFc hP (q0 := 0) (ci := 7) rfl rfl) rfl rfl hl.1 rfl (lv_room (Nat.le_of_ble_eq_true rfl)) dX7_has_2 ⟨(Nat.le_of_ble_eq_true rfl), (Nat.le_of_ble_eq_true rfl)⟩) hP hD hS hA [0, 1, 2, 3, 4] [] rfl rfl rfl rfl (by decide) (fun _ => rfl) 0 0 rfl rfl (fun u_3 H locs hw hP hD hS => ?_)
  have hP : va_P (dC, dI) vwCl [(p0, .inr (7, oM p2 (upd (upd (upd (upd i7 62 0) 63 0) 64 0) 65 0) j7)), ((p2 49), .inl (cI, 22, .inl (fun _ => 0))), ((p2 50), .inl (cI, 22, .inl (fun _ => 0))), ((p2 51), .inl (cI, 22, .inl (fun _ => 0))), ((p2 52), .inl (cI, 22, .inl (fun _ => 0)))] H := hP
  have hD : va_D A [(p0, .inr (7, oM p2 (upd (upd (upd (upd i7 62 0) 63 0) 64 0) 65 0) j7)), ((p2 49), .inl (cI, 22, .inl (fun _ => 0))), ((p2 50), .inl (cI, 22, .inl (fun _ => 0))), ((p2 51), .inl (cI, 22, .inl (fun _ => 0))), ((p2 52), .inl (cI, 22, .inl (fun _ => 0)))] := hD
  refine lv_iload_n hx hb dX7_has_5 rfl (lv_at hl 1 rfl) ?_
  refine lv_tableIn (off := 90) (tgt := 96) hx hb dX7_has_6 (by decide +kernel) (by decide +kernel) (by decide +kernel) (by decide +kernel) ?_
  refine lv_aload_n hx hb dX7_has_96 rfl (lv_at hl 0 rfl) ?_
  refine k_get (D := (dC, dI)) (ci := 7) (v := .ref (p2 49)) (C := RX7) (T := TX7) (N := 92) hx hb hts hinX7 hown hK hP 0 rfl rfl 49 (by decide) w_0 rfl rfl dX7_has_97 ?_
  refine lv_iconst (v := 0) hx hb dX7_has_100 (by decide +kernel) ?_
  refine k_iald (v := 0) hx hb hK hP 1 0 0 rfl rfl rfl (Nat.le_of_ble_eq_true rfl) (Nat.le_of_ble_eq_true rfl) rfl dX7_has_101 ?_
  exact k_ri B hP hD hS dX7_has_102 () [0, 1, 2, 3, 4] rfl rfl rfl (Nat.le_of_ble_eq_true rfl) (Nat.le_of_ble_eq_true rfl) rfl
set_option maxHeartbeats 4000000 in
set_option maxRecDepth 100000 in
theorem c_X7_worthOf_v0 (l : Launch) (dC : Nat → ClassId) (dI : Nat → Nat → Nat) (cI cJ cZ cM : ClassId) (p0 : Nat) (p1 : Nat → Nat)   : k_Mi l yX7_worthOf wsX7_worthOf ({ frames := 1, cells := 0, slots := 0, locals := 40 }) (dC, dI) vwCl (tyy cI cJ cZ cM) [(p0, .inr (7, oM p1 (upd (upd (upd (upd i7 62 0) 63 0) 64 0) 65 0) j7)), ((p1 14), .inl (cI, 2, .inl (fun _ => 0)))] [.ref p0, .int 0] 0 0 (fun (u9 : Unit) => [(p0, .inr (7, oM p1 (upd (upd (upd (upd i7 62 0) 63 0) 64 0) 65 0) j7)), ((p1 14), .inl (cI, 2, .inl (fun _ => 0)))]) (fun (r9 : Int32) (u9 : Unit) => r9 = 0) := by
  refine fun sz => k_enter (cc := cX7_worthOf) (maxL := 4) (ret := some (.int)) (Qc := fun A => va_Qi (fun (r9 : Int32) (u9 : Unit) => r9 = 0) (fun u => k_B (dC, dI) vwCl (tyy cI cJ cZ cM) A ((fun (u9 : Unit) => [(p0, .inr (7, oM p1 (upd (upd (upd (upd i7 62 0) 63 0) 64 0) 65 0) j7)), ((p1 14), .inl (cI, 2, .inl (fun _ => 0)))]) u)) A) sz (by decide +kernel) rfl (Nat.le_of_ble_eq_true rfl) (fun p e s m args below meth c A ls H locs B hP hD hS hl => ?_)
  obtain ⟨hx, hb, hml, hown, hts, hr, hlk, hnm, hK, hA, hN, hC⟩ := id B
  have hown : s.vm.findClass RX7 = some m.cls := hown
  have hl : lv_has ls 4 [(0, .ref p0), (1, .int 0)] := hl
  have w_0 : (Cond.fieldLink RX7 54 "WishSeaModel" "things" "[I").before args s = true := hts _ (List.mem_of_getElem? (i := 1) rfl)
  have w_1 : (Cond.fieldLink RX7 51 "WishSeaModel" "bank" "I").before args s = true := hts _ (List.mem_of_getElem? (i := 2) rfl)
  have hinX7 : ∀ w ∈ u_ws RX7 TX7 92, w ∈ wsX7_worthOf := fun _ h => List.mem_cons_of_mem _ (List.mem_append_right _ h)
  refine lv_iconst (v := 0) hx hb dX7_worthOf_0 (by decide +kernel) ?_
  refine lv_istore_n (lv' := [(2, .int 0), (0, .ref p0), (1, .int 0)]) hx hb dX7_worthOf_1 rfl hl (by decide) rfl (fun ls hl => ?_)
  refine lv_iconst (v := 0) hx hb dX7_worthOf_2 (by decide +kernel) ?_
  refine lv_istore_n (lv' := [(3, .int 0), (2, .int 0), (0, .ref p0), (1, .int 0)]) hx hb dX7_worthOf_3 rfl hl (by decide) rfl (fun ls hl => ?_)
  refine lv_iload_n hx hb dX7_worthOf_4 rfl (lv_at hl 0 rfl) ?_
  refine lv_aload_n hx hb dX7_worthOf_5 rfl (lv_at hl 2 rfl) ?_
  refine k_get (D := (dC, dI)) (ci := 7) (v := .ref (p1 14)) (C := RX7) (T := TX7) (N := 92) hx hb hts hinX7 hown hK hP 0 rfl rfl 14 (by decide) w_0 rfl rfl dX7_worthOf_6 ?_
  refine lv_aload_n hx hb dX7_worthOf_9 rfl (lv_at hl 2 rfl) ?_
  refine k_get (D := (dC, dI)) (ci := 7) (v := .int 0) (C := RX7) (T := TX7) (N := 92) hx hb hts hinX7 hown hK hP 0 rfl rfl 13 (by decide) w_1 rfl rfl dX7_worthOf_10 ?_
  refine k_iald (v := 0) hx hb hK hP 1 0 0 rfl rfl rfl (Nat.le_of_ble_eq_true rfl) (Nat.le_of_ble_eq_true rfl) rfl dX7_worthOf_13 ?_
  refine lv_icmp_ge (tgt := 52) hx hb dX7_worthOf_14 (by decide) (fun _ => ?_) (fun q9 => absurd q9 (by decide +kernel))
  refine lv_iload_n hx hb dX7_worthOf_52 rfl (lv_at hl 1 rfl) ?_
  exact k_ri B hP hD hS dX7_worthOf_53 () [0, 1] rfl rfl rfl (Nat.le_of_ble_eq_true rfl) (Nat.le_of_ble_eq_true rfl) rfl
set_option maxHeartbeats 4000000 in
set_option maxRecDepth 100000 in
theorem c_X7_has_v3 (l : Launch) (dC : Nat → ClassId) (dI : Nat → Nat → Nat) (cI cJ cZ cM : ClassId) (p0 : Nat) (p1 : Int32) (p2 : Nat → Nat) (b_0 : 3 ≤ p1.toInt) (t_0 : p1.toInt ≤ 3)  : k_Mi l yX7_has wsX7_has ({ frames := 3, cells := 0, slots := 0, locals := 85 }) (dC, dI) vwCl (tyy cI cJ cZ cM) [(p0, .inr (7, oM p2 i7 j7)), ((p2 49), .inl (cI, 22, .inl (fun _ => 0))), ((p2 50), .inl (cI, 22, .inl (fun _ => 0))), ((p2 51), .inl (cI, 22, .inl (fun _ => 0))), ((p2 52), .inl (cI, 22, .inl (fun _ => 0))), ((p2 14), .inl (cI, 2, .inl (fun _ => 0)))] [.ref p0, .int p1] 0 0 (fun (u9 : Unit) => [(p0, .inr (7, oM p2 (upd (upd (upd (upd i7 62 0) 63 0) 64 0) 65 0) j7)), ((p2 49), .inl (cI, 22, .inl (fun _ => 0))), ((p2 50), .inl (cI, 22, .inl (fun _ => 0))), ((p2 51), .inl (cI, 22, .inl (fun _ => 0))), ((p2 52), .inl (cI, 22, .inl (fun _ => 0))), ((p2 14), .inl (cI, 2, .inl (fun _ => 0)))]) (fun (r9 : Int32) (u9 : Unit) => r9 = 0) := by
  refine fun sz => k_enter (cc := cX7_has) (maxL := 2) (ret := some (.int)) (Qc := fun A => va_Qi (fun (r9 : Int32) (u9 : Unit) => r9 = 0) (fun u => k_B (dC, dI) vwCl (tyy cI cJ cZ cM) A ((fun (u9 : Unit) => [(p0, .inr (7, oM p2 (upd (upd (upd (upd i7 62 0) 63 0) 64 0) 65 0) j7)), ((p2 49), .inl (cI, 22, .inl (fun _ => 0))), ((p2 50), .inl (cI, 22, .inl (fun _ => 0))), ((p2 51), .inl (cI, 22, .inl (fun _ => 0))), ((p2 52), .inl (cI, 22, .inl (fun _ => 0))), ((p2 14), .inl (cI, 2, .inl (fun _ => 0)))]) u)) A) sz (by decide +kernel) rfl (Nat.le_of_ble_eq_true rfl) (fun p e s m args below meth c A ls H locs B hP hD hS hl => ?_)
  obtain ⟨hx, hb, hml, hown, hts, hr, hlk, hnm, hK, hA, hN, hC⟩ := id B
  have hown : s.vm.findClass RX7 = some m.cls := hown
  have hl : lv_has ls 2 [(0, .ref p0), (1, .int p1)] := hl
  have w_0 : (Cond.fieldLink RX7 162 "WishSeaModel" "hadOf" "[I").before args s = true := hts _ (List.mem_of_getElem? (i := 4) rfl)
  have hinX7 : ∀ w ∈ u_ws RX7 TX7 92, w ∈ wsX7_has := fun _ h => List.mem_cons_of_mem _ (List.mem_append_right _ h)
  rcases (show p1.toInt = 3 by omega) with c_1
  obtain rfl : p1 = 3 := k_eqL (by decide +kernel) c_1
  refine lv_aload_n hx hb dX7_has_0 rfl (lv_at hl 0 rfl) ?_
  refine lv_iconst (v := 0) hx hb dX7_has_1 (by decide +kernel) ?_
  refine k_cv (wc := [(p0, .inr (7, oM p2 i7 j7)), ((p2 49), .inl (cI, 22, .inl (fun _ => 0))), ((p2 50), .inl (cI, 22, .inl (fun _ => 0))), ((p2 51), .inl (cI, 22, .inl (fun _ => 0))), ((p2 52), .inl (cI, 22, .inl (fun _ => 0)))]) (wr := [((p2 14), .inl (cI, 2, .inl (fun _ => 0)))]) (fun hPc hDc hFc => va_runV (As := [.int 0]) (rest := []) ⟨hx, hb, hml, hown, hts⟩ (c_X7_asksLayer_v0 l dC dI cI cJ cZ cM p0 p2 H.size) (cwV 1 hts gX7_has_X7_asksLayer rfl rfl rfl (by decide +kernel) ⟨(Nat.le_of_ble_eq_true rfl), (Nat.le_of_ble_eq_true rfl)⟩) (k_pV hPc hDc hK hN hC hS hFc hP (q0 := 0) (ci := 7) rfl rfl) rfl rfl hl.1 rfl (lv_room (Nat.le_of_ble_eq_true rfl)) dX7_has_2 ⟨(Nat.le_of_ble_eq_true rfl), (Nat.le_of_ble_eq_true rfl)⟩) hP hD hS hA [0, 1, 2, 3, 4] [5] rfl rfl rfl rfl (by decide) (fun _ => rfl) 0 0 rfl rfl (fun u_3 H locs hw hP hD hS => ?_)
  have hP : va_P (dC, dI) vwCl [((p2 14), .inl (cI, 2, .inl (fun _ => 0))), (p0, .inr (7, oM p2 (upd (upd (upd (upd i7 62 0) 63 0) 64 0) 65 0) j7)), ((p2 49), .inl (cI, 22, .inl (fun _ => 0))), ((p2 50), .inl (cI, 22, .inl (fun _ => 0))), ((p2 51), .inl (cI, 22, .inl (fun _ => 0))), ((p2 52), .inl (cI, 22, .inl (fun _ => 0)))] H := hP
  have hD : va_D A [((p2 14), .inl (cI, 2, .inl (fun _ => 0))), (p0, .inr (7, oM p2 (upd (upd (upd (upd i7 62 0) 63 0) 64 0) 65 0) j7)), ((p2 49), .inl (cI, 22, .inl (fun _ => 0))), ((p2 50), .inl (cI, 22, .inl (fun _ => 0))), ((p2 51), .inl (cI, 22, .inl (fun _ => 0))), ((p2 52), .inl (cI, 22, .inl (fun _ => 0)))] := hD
  refine lv_iload_n hx hb dX7_has_5 rfl (lv_at hl 1 rfl) ?_
  refine lv_tableIn (off := 97) (tgt := 103) hx hb dX7_has_6 (by decide +kernel) (by decide +kernel) (by decide +kernel) (by decide +kernel) ?_
  refine lv_aload_n hx hb dX7_has_103 rfl (lv_at hl 0 rfl) ?_
  refine lv_aload_n hx hb dX7_has_104 rfl (lv_at hl 0 rfl) ?_
  refine k_get (D := (dC, dI)) (ci := 7) (v := .ref (p2 49)) (C := RX7) (T := TX7) (N := 92) hx hb hts hinX7 hown hK hP 1 rfl rfl 49 (by decide) w_0 rfl rfl dX7_has_105 ?_
  refine lv_iconst (v := 0) hx hb dX7_has_108 (by decide +kernel) ?_
  refine k_iald (v := 0) hx hb hK hP 2 0 0 rfl rfl rfl (Nat.le_of_ble_eq_true rfl) (Nat.le_of_ble_eq_true rfl) rfl dX7_has_109 ?_
  refine k_ci (wc := [(p0, .inr (7, oM p2 (upd (upd (upd (upd i7 62 0) 63 0) 64 0) 65 0) j7)), ((p2 14), .inl (cI, 2, .inl (fun _ => 0)))]) (wr := [((p2 49), .inl (cI, 22, .inl (fun _ => 0))), ((p2 50), .inl (cI, 22, .inl (fun _ => 0))), ((p2 51), .inl (cI, 22, .inl (fun _ => 0))), ((p2 52), .inl (cI, 22, .inl (fun _ => 0)))]) (fun hPc hDc hFc => va_runV (As := [.int 0]) (rest := []) ⟨hx, hb, hml, hown, hts⟩ (c_X7_worthOf_v0 l dC dI cI cJ cZ cM p0 p2 H.size) (cwV 1 hts gX7_has_X7_worthOf rfl rfl rfl (by decide +kernel) ⟨(Nat.le_of_ble_eq_true rfl), (Nat.le_of_ble_eq_true rfl)⟩) (k_pV hPc hDc hK hN hC hS hFc hP (q0 := 1) (ci := 7) rfl rfl) rfl rfl hl.1 rfl (lv_room (Nat.le_of_ble_eq_true rfl)) dX7_has_110 ⟨(Nat.le_of_ble_eq_true rfl), (Nat.le_of_ble_eq_true rfl)⟩) hP hD hS hA [1, 0] [2, 3, 4, 5] rfl rfl rfl rfl (by decide) (fun _ => rfl) 0 0 rfl rfl (fun r_4 u_5 H locs hw hP hD hS => ?_)
  obtain rfl : r_4 = 0 := hw
  have hP : va_P (dC, dI) vwCl [((p2 49), .inl (cI, 22, .inl (fun _ => 0))), ((p2 50), .inl (cI, 22, .inl (fun _ => 0))), ((p2 51), .inl (cI, 22, .inl (fun _ => 0))), ((p2 52), .inl (cI, 22, .inl (fun _ => 0))), (p0, .inr (7, oM p2 (upd (upd (upd (upd i7 62 0) 63 0) 64 0) 65 0) j7)), ((p2 14), .inl (cI, 2, .inl (fun _ => 0)))] H := hP
  have hD : va_D A [((p2 49), .inl (cI, 22, .inl (fun _ => 0))), ((p2 50), .inl (cI, 22, .inl (fun _ => 0))), ((p2 51), .inl (cI, 22, .inl (fun _ => 0))), ((p2 52), .inl (cI, 22, .inl (fun _ => 0))), (p0, .inr (7, oM p2 (upd (upd (upd (upd i7 62 0) 63 0) 64 0) 65 0) j7)), ((p2 14), .inl (cI, 2, .inl (fun _ => 0)))] := hD
  exact k_ri B hP hD hS dX7_has_113 () [4, 0, 1, 2, 3, 5] rfl rfl rfl (Nat.le_of_ble_eq_true rfl) (Nat.le_of_ble_eq_true rfl) rfl
set_option maxHeartbeats 4000000 in
set_option maxRecDepth 100000 in
theorem c_X7_has_v4 (l : Launch) (dC : Nat → ClassId) (dI : Nat → Nat → Nat) (cI cJ cZ cM : ClassId) (p0 : Nat) (p1 : Int32) (p2 : Nat → Nat) (b_0 : 4 ≤ p1.toInt) (t_0 : p1.toInt ≤ 4)  : k_Mi l yX7_has wsX7_has ({ frames := 3, cells := 0, slots := 0, locals := 85 }) (dC, dI) vwCl (tyy cI cJ cZ cM) [(p0, .inr (7, oM p2 i7 j7)), ((p2 49), .inl (cI, 22, .inl (fun _ => 0))), ((p2 50), .inl (cI, 22, .inl (fun _ => 0))), ((p2 51), .inl (cI, 22, .inl (fun _ => 0))), ((p2 52), .inl (cI, 22, .inl (fun _ => 0)))] [.ref p0, .int p1] 0 0 (fun (u9 : Unit) => [(p0, .inr (7, oM p2 (upd (upd (upd (upd i7 62 0) 63 0) 64 0) 65 0) j7)), ((p2 49), .inl (cI, 22, .inl (fun _ => 0))), ((p2 50), .inl (cI, 22, .inl (fun _ => 0))), ((p2 51), .inl (cI, 22, .inl (fun _ => 0))), ((p2 52), .inl (cI, 22, .inl (fun _ => 0)))]) (fun (r9 : Int32) (u9 : Unit) => r9 = 0) := by
  refine fun sz => k_enter (cc := cX7_has) (maxL := 2) (ret := some (.int)) (Qc := fun A => va_Qi (fun (r9 : Int32) (u9 : Unit) => r9 = 0) (fun u => k_B (dC, dI) vwCl (tyy cI cJ cZ cM) A ((fun (u9 : Unit) => [(p0, .inr (7, oM p2 (upd (upd (upd (upd i7 62 0) 63 0) 64 0) 65 0) j7)), ((p2 49), .inl (cI, 22, .inl (fun _ => 0))), ((p2 50), .inl (cI, 22, .inl (fun _ => 0))), ((p2 51), .inl (cI, 22, .inl (fun _ => 0))), ((p2 52), .inl (cI, 22, .inl (fun _ => 0)))]) u)) A) sz (by decide +kernel) rfl (Nat.le_of_ble_eq_true rfl) (fun p e s m args below meth c A ls H locs B hP hD hS hl => ?_)
  obtain ⟨hx, hb, hml, hown, hts, hr, hlk, hnm, hK, hA, hN, hC⟩ := id B
  have hown : s.vm.findClass RX7 = some m.cls := hown
  have hl : lv_has ls 2 [(0, .ref p0), (1, .int p1)] := hl
  have w_0 : (Cond.fieldLink RX7 165 "WishSeaModel" "seaOf" "[I").before args s = true := hts _ (List.mem_of_getElem? (i := 5) rfl)
  have hinX7 : ∀ w ∈ u_ws RX7 TX7 92, w ∈ wsX7_has := fun _ h => List.mem_cons_of_mem _ (List.mem_append_right _ h)
  rcases (show p1.toInt = 4 by omega) with c_1
  obtain rfl : p1 = 4 := k_eqL (by decide +kernel) c_1
  refine lv_aload_n hx hb dX7_has_0 rfl (lv_at hl 0 rfl) ?_
  refine lv_iconst (v := 0) hx hb dX7_has_1 (by decide +kernel) ?_
  refine k_cv (wc := [(p0, .inr (7, oM p2 i7 j7)), ((p2 49), .inl (cI, 22, .inl (fun _ => 0))), ((p2 50), .inl (cI, 22, .inl (fun _ => 0))), ((p2 51), .inl (cI, 22, .inl (fun _ => 0))), ((p2 52), .inl (cI, 22, .inl (fun _ => 0)))]) (wr := []) (fun hPc hDc hFc => va_runV (As := [.int 0]) (rest := []) ⟨hx, hb, hml, hown, hts⟩ (c_X7_asksLayer_v0 l dC dI cI cJ cZ cM p0 p2 H.size) (cwV 1 hts gX7_has_X7_asksLayer rfl rfl rfl (by decide +kernel) ⟨(Nat.le_of_ble_eq_true rfl), (Nat.le_of_ble_eq_true rfl)⟩) (k_pV hPc hDc hK hN hC hS hFc hP (q0 := 0) (ci := 7) rfl rfl) rfl rfl hl.1 rfl (lv_room (Nat.le_of_ble_eq_true rfl)) dX7_has_2 ⟨(Nat.le_of_ble_eq_true rfl), (Nat.le_of_ble_eq_true rfl)⟩) hP hD hS hA [0, 1, 2, 3, 4] [] rfl rfl rfl rfl (by decide) (fun _ => rfl) 0 0 rfl rfl (fun u_3 H locs hw hP hD hS => ?_)
  have hP : va_P (dC, dI) vwCl [(p0, .inr (7, oM p2 (upd (upd (upd (upd i7 62 0) 63 0) 64 0) 65 0) j7)), ((p2 49), .inl (cI, 22, .inl (fun _ => 0))), ((p2 50), .inl (cI, 22, .inl (fun _ => 0))), ((p2 51), .inl (cI, 22, .inl (fun _ => 0))), ((p2 52), .inl (cI, 22, .inl (fun _ => 0)))] H := hP
  have hD : va_D A [(p0, .inr (7, oM p2 (upd (upd (upd (upd i7 62 0) 63 0) 64 0) 65 0) j7)), ((p2 49), .inl (cI, 22, .inl (fun _ => 0))), ((p2 50), .inl (cI, 22, .inl (fun _ => 0))), ((p2 51), .inl (cI, 22, .inl (fun _ => 0))), ((p2 52), .inl (cI, 22, .inl (fun _ => 0)))] := hD
  refine lv_iload_n hx hb dX7_has_5 rfl (lv_at hl 1 rfl) ?_
  refine lv_tableIn (off := 108) (tgt := 114) hx hb dX7_has_6 (by decide +kernel) (by decide +kernel) (by decide +kernel) (by decide +kernel) ?_
  refine lv_aload_n hx hb dX7_has_114 rfl (lv_at hl 0 rfl) ?_
  refine k_get (D := (dC, dI)) (ci := 7) (v := .ref (p2 50)) (C := RX7) (T := TX7) (N := 92) hx hb hts hinX7 hown hK hP 0 rfl rfl 50 (by decide) w_0 rfl rfl dX7_has_115 ?_
  refine lv_iconst (v := 0) hx hb dX7_has_118 (by decide +kernel) ?_
  refine k_iald (v := 0) hx hb hK hP 2 0 0 rfl rfl rfl (Nat.le_of_ble_eq_true rfl) (Nat.le_of_ble_eq_true rfl) rfl dX7_has_119 ?_
  exact k_ri B hP hD hS dX7_has_120 () [0, 1, 2, 3, 4] rfl rfl rfl (Nat.le_of_ble_eq_true rfl) (Nat.le_of_ble_eq_true rfl) rfl
set_option maxHeartbeats 4000000 in
set_option maxRecDepth 100000 in
theorem c_X7_has_v5 (l : Launch) (dC : Nat → ClassId) (dI : Nat → Nat → Nat) (cI cJ cZ cM : ClassId) (p0 : Nat) (p1 : Int32) (p2 : Nat → Nat) (b_0 : 5 ≤ p1.toInt) (t_0 : p1.toInt ≤ 5)  : k_Mi l yX7_has wsX7_has ({ frames := 3, cells := 0, slots := 0, locals := 85 }) (dC, dI) vwCl (tyy cI cJ cZ cM) [(p0, .inr (7, oM p2 i7 j7)), ((p2 49), .inl (cI, 22, .inl (fun _ => 0))), ((p2 50), .inl (cI, 22, .inl (fun _ => 0))), ((p2 51), .inl (cI, 22, .inl (fun _ => 0))), ((p2 52), .inl (cI, 22, .inl (fun _ => 0)))] [.ref p0, .int p1] 0 0 (fun (u9 : Unit) => [(p0, .inr (7, oM p2 (upd (upd (upd (upd i7 62 0) 63 0) 64 0) 65 0) j7)), ((p2 49), .inl (cI, 22, .inl (fun _ => 0))), ((p2 50), .inl (cI, 22, .inl (fun _ => 0))), ((p2 51), .inl (cI, 22, .inl (fun _ => 0))), ((p2 52), .inl (cI, 22, .inl (fun _ => 0)))]) (fun (r9 : Int32) (u9 : Unit) => r9 = 0) := by
  refine fun sz => k_enter (cc := cX7_has) (maxL := 2) (ret := some (.int)) (Qc := fun A => va_Qi (fun (r9 : Int32) (u9 : Unit) => r9 = 0) (fun u => k_B (dC, dI) vwCl (tyy cI cJ cZ cM) A ((fun (u9 : Unit) => [(p0, .inr (7, oM p2 (upd (upd (upd (upd i7 62 0) 63 0) 64 0) 65 0) j7)), ((p2 49), .inl (cI, 22, .inl (fun _ => 0))), ((p2 50), .inl (cI, 22, .inl (fun _ => 0))), ((p2 51), .inl (cI, 22, .inl (fun _ => 0))), ((p2 52), .inl (cI, 22, .inl (fun _ => 0)))]) u)) A) sz (by decide +kernel) rfl (Nat.le_of_ble_eq_true rfl) (fun p e s m args below meth c A ls H locs B hP hD hS hl => ?_)
  obtain ⟨hx, hb, hml, hown, hts, hr, hlk, hnm, hK, hA, hN, hC⟩ := id B
  have hown : s.vm.findClass RX7 = some m.cls := hown
  have hl : lv_has ls 2 [(0, .ref p0), (1, .int p1)] := hl
  have w_0 : (Cond.fieldLink RX7 168 "WishSeaModel" "saidOf" "[I").before args s = true := hts _ (List.mem_of_getElem? (i := 6) rfl)
  have hinX7 : ∀ w ∈ u_ws RX7 TX7 92, w ∈ wsX7_has := fun _ h => List.mem_cons_of_mem _ (List.mem_append_right _ h)
  rcases (show p1.toInt = 5 by omega) with c_1
  obtain rfl : p1 = 5 := k_eqL (by decide +kernel) c_1
  refine lv_aload_n hx hb dX7_has_0 rfl (lv_at hl 0 rfl) ?_
  refine lv_iconst (v := 0) hx hb dX7_has_1 (by decide +kernel) ?_
  refine k_cv (wc := [(p0, .inr (7, oM p2 i7 j7)), ((p2 49), .inl (cI, 22, .inl (fun _ => 0))), ((p2 50), .inl (cI, 22, .inl (fun _ => 0))), ((p2 51), .inl (cI, 22, .inl (fun _ => 0))), ((p2 52), .inl (cI, 22, .inl (fun _ => 0)))]) (wr := []) (fun hPc hDc hFc => va_runV (As := [.int 0]) (rest := []) ⟨hx, hb, hml, hown, hts⟩ (c_X7_asksLayer_v0 l dC dI cI cJ cZ cM p0 p2 H.size) (cwV 1 hts gX7_has_X7_asksLayer rfl rfl rfl (by decide +kernel) ⟨(Nat.le_of_ble_eq_true rfl), (Nat.le_of_ble_eq_true rfl)⟩) (k_pV hPc hDc hK hN hC hS hFc hP (q0 := 0) (ci := 7) rfl rfl) rfl rfl hl.1 rfl (lv_room (Nat.le_of_ble_eq_true rfl)) dX7_has_2 ⟨(Nat.le_of_ble_eq_true rfl), (Nat.le_of_ble_eq_true rfl)⟩) hP hD hS hA [0, 1, 2, 3, 4] [] rfl rfl rfl rfl (by decide) (fun _ => rfl) 0 0 rfl rfl (fun u_3 H locs hw hP hD hS => ?_)
  have hP : va_P (dC, dI) vwCl [(p0, .inr (7, oM p2 (upd (upd (upd (upd i7 62 0) 63 0) 64 0) 65 0) j7)), ((p2 49), .inl (cI, 22, .inl (fun _ => 0))), ((p2 50), .inl (cI, 22, .inl (fun _ => 0))), ((p2 51), .inl (cI, 22, .inl (fun _ => 0))), ((p2 52), .inl (cI, 22, .inl (fun _ => 0)))] H := hP
  have hD : va_D A [(p0, .inr (7, oM p2 (upd (upd (upd (upd i7 62 0) 63 0) 64 0) 65 0) j7)), ((p2 49), .inl (cI, 22, .inl (fun _ => 0))), ((p2 50), .inl (cI, 22, .inl (fun _ => 0))), ((p2 51), .inl (cI, 22, .inl (fun _ => 0))), ((p2 52), .inl (cI, 22, .inl (fun _ => 0)))] := hD
  refine lv_iload_n hx hb dX7_has_5 rfl (lv_at hl 1 rfl) ?_
  refine lv_tableIn (off := 115) (tgt := 121) hx hb dX7_has_6 (by decide +kernel) (by decide +kernel) (by decide +kernel) (by decide +kernel) ?_
  refine lv_aload_n hx hb dX7_has_121 rfl (lv_at hl 0 rfl) ?_
  refine k_get (D := (dC, dI)) (ci := 7) (v := .ref (p2 51)) (C := RX7) (T := TX7) (N := 92) hx hb hts hinX7 hown hK hP 0 rfl rfl 51 (by decide) w_0 rfl rfl dX7_has_122 ?_
  refine lv_iconst (v := 0) hx hb dX7_has_125 (by decide +kernel) ?_
  refine k_iald (v := 0) hx hb hK hP 3 0 0 rfl rfl rfl (Nat.le_of_ble_eq_true rfl) (Nat.le_of_ble_eq_true rfl) rfl dX7_has_126 ?_
  exact k_ri B hP hD hS dX7_has_127 () [0, 1, 2, 3, 4] rfl rfl rfl (Nat.le_of_ble_eq_true rfl) (Nat.le_of_ble_eq_true rfl) rfl
set_option maxHeartbeats 4000000 in
set_option maxRecDepth 100000 in
theorem c_X7_has_v6 (l : Launch) (dC : Nat → ClassId) (dI : Nat → Nat → Nat) (cI cJ cZ cM : ClassId) (p0 : Nat) (p1 : Int32) (p2 : Nat → Nat) (b_0 : 6 ≤ p1.toInt) (t_0 : p1.toInt ≤ 6)  : k_Mi l yX7_has wsX7_has ({ frames := 3, cells := 0, slots := 0, locals := 85 }) (dC, dI) vwCl (tyy cI cJ cZ cM) [(p0, .inr (7, oM p2 i7 j7)), ((p2 49), .inl (cI, 22, .inl (fun _ => 0))), ((p2 50), .inl (cI, 22, .inl (fun _ => 0))), ((p2 51), .inl (cI, 22, .inl (fun _ => 0))), ((p2 52), .inl (cI, 22, .inl (fun _ => 0)))] [.ref p0, .int p1] 0 0 (fun (u9 : Unit) => [(p0, .inr (7, oM p2 (upd (upd (upd (upd i7 62 0) 63 0) 64 0) 65 0) j7)), ((p2 49), .inl (cI, 22, .inl (fun _ => 0))), ((p2 50), .inl (cI, 22, .inl (fun _ => 0))), ((p2 51), .inl (cI, 22, .inl (fun _ => 0))), ((p2 52), .inl (cI, 22, .inl (fun _ => 0)))]) (fun (r9 : Int32) (u9 : Unit) => r9 = 0) := by
  refine fun sz => k_enter (cc := cX7_has) (maxL := 2) (ret := some (.int)) (Qc := fun A => va_Qi (fun (r9 : Int32) (u9 : Unit) => r9 = 0) (fun u => k_B (dC, dI) vwCl (tyy cI cJ cZ cM) A ((fun (u9 : Unit) => [(p0, .inr (7, oM p2 (upd (upd (upd (upd i7 62 0) 63 0) 64 0) 65 0) j7)), ((p2 49), .inl (cI, 22, .inl (fun _ => 0))), ((p2 50), .inl (cI, 22, .inl (fun _ => 0))), ((p2 51), .inl (cI, 22, .inl (fun _ => 0))), ((p2 52), .inl (cI, 22, .inl (fun _ => 0)))]) u)) A) sz (by decide +kernel) rfl (Nat.le_of_ble_eq_true rfl) (fun p e s m args below meth c A ls H locs B hP hD hS hl => ?_)
  obtain ⟨hx, hb, hml, hown, hts, hr, hlk, hnm, hK, hA, hN, hC⟩ := id B
  have hown : s.vm.findClass RX7 = some m.cls := hown
  have hl : lv_has ls 2 [(0, .ref p0), (1, .int p1)] := hl
  have w_0 : (Cond.fieldLink RX7 171 "WishSeaModel" "dayOf" "[I").before args s = true := hts _ (List.mem_of_getElem? (i := 7) rfl)
  have hinX7 : ∀ w ∈ u_ws RX7 TX7 92, w ∈ wsX7_has := fun _ h => List.mem_cons_of_mem _ (List.mem_append_right _ h)
  rcases (show p1.toInt = 6 by omega) with c_1
  obtain rfl : p1 = 6 := k_eqL (by decide +kernel) c_1
  refine lv_aload_n hx hb dX7_has_0 rfl (lv_at hl 0 rfl) ?_
  refine lv_iconst (v := 0) hx hb dX7_has_1 (by decide +kernel) ?_
  refine k_cv (wc := [(p0, .inr (7, oM p2 i7 j7)), ((p2 49), .inl (cI, 22, .inl (fun _ => 0))), ((p2 50), .inl (cI, 22, .inl (fun _ => 0))), ((p2 51), .inl (cI, 22, .inl (fun _ => 0))), ((p2 52), .inl (cI, 22, .inl (fun _ => 0)))]) (wr := []) (fun hPc hDc hFc => va_runV (As := [.int 0]) (rest := []) ⟨hx, hb, hml, hown, hts⟩ (c_X7_asksLayer_v0 l dC dI cI cJ cZ cM p0 p2 H.size) (cwV 1 hts gX7_has_X7_asksLayer rfl rfl rfl (by decide +kernel) ⟨(Nat.le_of_ble_eq_true rfl), (Nat.le_of_ble_eq_true rfl)⟩) (k_pV hPc hDc hK hN hC hS hFc hP (q0 := 0) (ci := 7) rfl rfl) rfl rfl hl.1 rfl (lv_room (Nat.le_of_ble_eq_true rfl)) dX7_has_2 ⟨(Nat.le_of_ble_eq_true rfl), (Nat.le_of_ble_eq_true rfl)⟩) hP hD hS hA [0, 1, 2, 3, 4] [] rfl rfl rfl rfl (by decide) (fun _ => rfl) 0 0 rfl rfl (fun u_3 H locs hw hP hD hS => ?_)
  have hP : va_P (dC, dI) vwCl [(p0, .inr (7, oM p2 (upd (upd (upd (upd i7 62 0) 63 0) 64 0) 65 0) j7)), ((p2 49), .inl (cI, 22, .inl (fun _ => 0))), ((p2 50), .inl (cI, 22, .inl (fun _ => 0))), ((p2 51), .inl (cI, 22, .inl (fun _ => 0))), ((p2 52), .inl (cI, 22, .inl (fun _ => 0)))] H := hP
  have hD : va_D A [(p0, .inr (7, oM p2 (upd (upd (upd (upd i7 62 0) 63 0) 64 0) 65 0) j7)), ((p2 49), .inl (cI, 22, .inl (fun _ => 0))), ((p2 50), .inl (cI, 22, .inl (fun _ => 0))), ((p2 51), .inl (cI, 22, .inl (fun _ => 0))), ((p2 52), .inl (cI, 22, .inl (fun _ => 0)))] := hD
  refine lv_iload_n hx hb dX7_has_5 rfl (lv_at hl 1 rfl) ?_
  refine lv_tableIn (off := 122) (tgt := 128) hx hb dX7_has_6 (by decide +kernel) (by decide +kernel) (by decide +kernel) (by decide +kernel) ?_
  refine lv_aload_n hx hb dX7_has_128 rfl (lv_at hl 0 rfl) ?_
  refine k_get (D := (dC, dI)) (ci := 7) (v := .ref (p2 52)) (C := RX7) (T := TX7) (N := 92) hx hb hts hinX7 hown hK hP 0 rfl rfl 52 (by decide) w_0 rfl rfl dX7_has_129 ?_
  refine lv_iconst (v := 0) hx hb dX7_has_132 (by decide +kernel) ?_
  refine k_iald (v := 0) hx hb hK hP 4 0 0 rfl rfl rfl (Nat.le_of_ble_eq_true rfl) (Nat.le_of_ble_eq_true rfl) rfl dX7_has_133 ?_
  exact k_ri B hP hD hS dX7_has_134 () [0, 1, 2, 3, 4] rfl rfl rfl (Nat.le_of_ble_eq_true rfl) (Nat.le_of_ble_eq_true rfl) rfl
set_option maxHeartbeats 4000000 in
set_option maxRecDepth 100000 in
theorem c_X7_roomNow_v0 (l : Launch) (dC : Nat → ClassId) (dI : Nat → Nat → Nat) (cI cJ cZ cM : ClassId) (p0 : Nat) (p1 : Nat → Nat)   : k_Mi l yX7_roomNow wsX7_roomNow ({ frames := 1, cells := 0, slots := 0, locals := 40 }) (dC, dI) vwCl (tyy cI cJ cZ cM) [(p0, .inr (7, oM p1 (upd (upd (upd (upd i7 62 0) 63 0) 64 0) 65 0) j7)), ((p1 26), .inl (cI, 2, .inl (upd (fun _ => 0) 0 (-1))))] [.ref p0] 0 0 (fun (u9 : Unit) => [(p0, .inr (7, oM p1 (upd (upd (upd (upd (upd i7 62 0) 63 0) 64 0) 65 0) 66 (-1)) j7)), ((p1 26), .inl (cI, 2, .inl (upd (fun _ => 0) 0 (-1))))]) (fun (r9 : Int32) (u9 : Unit) => r9 = 99) := by
  refine fun sz => k_enter (cc := cX7_roomNow) (maxL := 1) (ret := some (.int)) (Qc := fun A => va_Qi (fun (r9 : Int32) (u9 : Unit) => r9 = 99) (fun u => k_B (dC, dI) vwCl (tyy cI cJ cZ cM) A ((fun (u9 : Unit) => [(p0, .inr (7, oM p1 (upd (upd (upd (upd (upd i7 62 0) 63 0) 64 0) 65 0) 66 (-1)) j7)), ((p1 26), .inl (cI, 2, .inl (upd (fun _ => 0) 0 (-1))))]) u)) A) sz (by decide +kernel) rfl (Nat.le_of_ble_eq_true rfl) (fun p e s m args below meth c A ls H locs B hP hD hS hl => ?_)
  obtain ⟨hx, hb, hml, hown, hts, hr, hlk, hnm, hK, hA, hN, hC⟩ := id B
  have hown : s.vm.findClass RX7 = some m.cls := hown
  have hl : lv_has ls 1 [(0, .ref p0)] := hl
  have w_0 : (Cond.fieldLink RX7 213 "WishSeaModel" "askedWish" "I").before args s = true := hts _ (List.mem_of_getElem? (i := 1) rfl)
  have w_1 : (Cond.fieldLink RX7 90 "WishSeaModel" "roomFrom" "[I").before args s = true := hts _ (List.mem_of_getElem? (i := 2) rfl)
  have w_2 : (Cond.fieldLink RX7 51 "WishSeaModel" "bank" "I").before args s = true := hts _ (List.mem_of_getElem? (i := 3) rfl)
  have hinX7 : ∀ w ∈ u_ws RX7 TX7 92, w ∈ wsX7_roomNow := fun _ h => List.mem_cons_of_mem _ (List.mem_append_right _ h)
  refine lv_aload_n hx hb dX7_roomNow_0 rfl (lv_at hl 0 rfl) ?_
  refine lv_iconst (v := (-1)) hx hb dX7_roomNow_1 (by decide +kernel) ?_
  refine k_put (D := (dC, dI)) (ci := 7) (v := .int (-1)) (C := RX7) (T := TX7) (N := 92) (ws' := [(p0, .inr (7, oM p1 (upd (upd (upd (upd (upd i7 62 0) 63 0) 64 0) 65 0) 66 (-1)) j7)), ((p1 26), .inl (cI, 2, .inl (upd (fun _ => 0) 0 (-1))))]) hx hb hts hinX7 tyX7 tyX7_ok nmX7 hown hK hP hD hS 0 rfl rfl 66 (by decide) w_0 rfl rfl rfl rfl (Nat.le_of_ble_eq_true rfl) rfl dX7_roomNow_2 (fun H locs hP hD hS => ?_)
  refine lv_aload_n hx hb dX7_roomNow_5 rfl (lv_at hl 0 rfl) ?_
  refine k_get (D := (dC, dI)) (ci := 7) (v := .ref (p1 26)) (C := RX7) (T := TX7) (N := 92) hx hb hts hinX7 hown hK hP 0 rfl rfl 26 (by decide) w_1 rfl rfl dX7_roomNow_6 ?_
  refine lv_aload_n hx hb dX7_roomNow_9 rfl (lv_at hl 0 rfl) ?_
  refine k_get (D := (dC, dI)) (ci := 7) (v := .int 0) (C := RX7) (T := TX7) (N := 92) hx hb hts hinX7 hown hK hP 0 rfl rfl 13 (by decide) w_2 rfl rfl dX7_roomNow_10 ?_
  refine k_iald (v := (-1)) hx hb hK hP 1 0 0 rfl rfl rfl (Nat.le_of_ble_eq_true rfl) (Nat.le_of_ble_eq_true rfl) rfl dX7_roomNow_13 ?_
  refine lv_iconst (v := (-1)) hx hb dX7_roomNow_14 (by decide +kernel) ?_
  refine lv_icmp_ne (tgt := 23) hx hb dX7_roomNow_15 (by decide) (fun q9 => absurd q9 (by decide +kernel)) (fun _ => ?_)
  refine lv_bipush (v := 99) hx hb dX7_roomNow_18 (by decide +kernel) ?_
  refine lv_goto (tgt := 51) hx hb dX7_roomNow_20 (by decide) ?_
  exact k_ri B hP hD hS dX7_roomNow_51 () [0, 1] rfl rfl rfl (Nat.le_of_ble_eq_true rfl) (Nat.le_of_ble_eq_true rfl) rfl
set_option maxHeartbeats 4000000 in
set_option maxRecDepth 100000 in
theorem c_X7_has_v7 (l : Launch) (dC : Nat → ClassId) (dI : Nat → Nat → Nat) (cI cJ cZ cM : ClassId) (p0 : Nat) (p1 : Int32) (p2 : Nat → Nat) (b_0 : 7 ≤ p1.toInt) (t_0 : p1.toInt ≤ 7)  : k_Mi l yX7_has wsX7_has ({ frames := 3, cells := 0, slots := 0, locals := 85 }) (dC, dI) vwCl (tyy cI cJ cZ cM) [(p0, .inr (7, oM p2 i7 j7)), ((p2 49), .inl (cI, 22, .inl (fun _ => 0))), ((p2 50), .inl (cI, 22, .inl (fun _ => 0))), ((p2 51), .inl (cI, 22, .inl (fun _ => 0))), ((p2 52), .inl (cI, 22, .inl (fun _ => 0))), ((p2 26), .inl (cI, 2, .inl (upd (fun _ => 0) 0 (-1))))] [.ref p0, .int p1] 0 0 (fun (u9 : Unit) => [(p0, .inr (7, oM p2 (upd (upd (upd (upd (upd i7 62 0) 63 0) 64 0) 65 0) 66 (-1)) j7)), ((p2 49), .inl (cI, 22, .inl (fun _ => 0))), ((p2 50), .inl (cI, 22, .inl (fun _ => 0))), ((p2 51), .inl (cI, 22, .inl (fun _ => 0))), ((p2 52), .inl (cI, 22, .inl (fun _ => 0))), ((p2 26), .inl (cI, 2, .inl (upd (fun _ => 0) 0 (-1))))]) (fun (r9 : Int32) (u9 : Unit) => r9 = 99) := by
  refine fun sz => k_enter (cc := cX7_has) (maxL := 2) (ret := some (.int)) (Qc := fun A => va_Qi (fun (r9 : Int32) (u9 : Unit) => r9 = 99) (fun u => k_B (dC, dI) vwCl (tyy cI cJ cZ cM) A ((fun (u9 : Unit) => [(p0, .inr (7, oM p2 (upd (upd (upd (upd (upd i7 62 0) 63 0) 64 0) 65 0) 66 (-1)) j7)), ((p2 49), .inl (cI, 22, .inl (fun _ => 0))), ((p2 50), .inl (cI, 22, .inl (fun _ => 0))), ((p2 51), .inl (cI, 22, .inl (fun _ => 0))), ((p2 52), .inl (cI, 22, .inl (fun _ => 0))), ((p2 26), .inl (cI, 2, .inl (upd (fun _ => 0) 0 (-1))))]) u)) A) sz (by decide +kernel) rfl (Nat.le_of_ble_eq_true rfl) (fun p e s m args below meth c A ls H locs B hP hD hS hl => ?_)
  obtain ⟨hx, hb, hml, hown, hts, hr, hlk, hnm, hK, hA, hN, hC⟩ := id B
  have hown : s.vm.findClass RX7 = some m.cls := hown
  have hl : lv_has ls 2 [(0, .ref p0), (1, .int p1)] := hl
  rcases (show p1.toInt = 7 by omega) with c_1
  obtain rfl : p1 = 7 := k_eqL (by decide +kernel) c_1
  refine lv_aload_n hx hb dX7_has_0 rfl (lv_at hl 0 rfl) ?_
  refine lv_iconst (v := 0) hx hb dX7_has_1 (by decide +kernel) ?_
  refine k_cv (wc := [(p0, .inr (7, oM p2 i7 j7)), ((p2 49), .inl (cI, 22, .inl (fun _ => 0))), ((p2 50), .inl (cI, 22, .inl (fun _ => 0))), ((p2 51), .inl (cI, 22, .inl (fun _ => 0))), ((p2 52), .inl (cI, 22, .inl (fun _ => 0)))]) (wr := [((p2 26), .inl (cI, 2, .inl (upd (fun _ => 0) 0 (-1))))]) (fun hPc hDc hFc => va_runV (As := [.int 0]) (rest := []) ⟨hx, hb, hml, hown, hts⟩ (c_X7_asksLayer_v0 l dC dI cI cJ cZ cM p0 p2 H.size) (cwV 1 hts gX7_has_X7_asksLayer rfl rfl rfl (by decide +kernel) ⟨(Nat.le_of_ble_eq_true rfl), (Nat.le_of_ble_eq_true rfl)⟩) (k_pV hPc hDc hK hN hC hS hFc hP (q0 := 0) (ci := 7) rfl rfl) rfl rfl hl.1 rfl (lv_room (Nat.le_of_ble_eq_true rfl)) dX7_has_2 ⟨(Nat.le_of_ble_eq_true rfl), (Nat.le_of_ble_eq_true rfl)⟩) hP hD hS hA [0, 1, 2, 3, 4] [5] rfl rfl rfl rfl (by decide) (fun _ => rfl) 0 0 rfl rfl (fun u_3 H locs hw hP hD hS => ?_)
  have hP : va_P (dC, dI) vwCl [((p2 26), .inl (cI, 2, .inl (upd (fun _ => 0) 0 (-1)))), (p0, .inr (7, oM p2 (upd (upd (upd (upd i7 62 0) 63 0) 64 0) 65 0) j7)), ((p2 49), .inl (cI, 22, .inl (fun _ => 0))), ((p2 50), .inl (cI, 22, .inl (fun _ => 0))), ((p2 51), .inl (cI, 22, .inl (fun _ => 0))), ((p2 52), .inl (cI, 22, .inl (fun _ => 0)))] H := hP
  have hD : va_D A [((p2 26), .inl (cI, 2, .inl (upd (fun _ => 0) 0 (-1)))), (p0, .inr (7, oM p2 (upd (upd (upd (upd i7 62 0) 63 0) 64 0) 65 0) j7)), ((p2 49), .inl (cI, 22, .inl (fun _ => 0))), ((p2 50), .inl (cI, 22, .inl (fun _ => 0))), ((p2 51), .inl (cI, 22, .inl (fun _ => 0))), ((p2 52), .inl (cI, 22, .inl (fun _ => 0)))] := hD
  refine lv_iload_n hx hb dX7_has_5 rfl (lv_at hl 1 rfl) ?_
  refine lv_tableIn (off := 129) (tgt := 135) hx hb dX7_has_6 (by decide +kernel) (by decide +kernel) (by decide +kernel) (by decide +kernel) ?_
  refine lv_aload_n hx hb dX7_has_135 rfl (lv_at hl 0 rfl) ?_
  refine k_ci (wc := [(p0, .inr (7, oM p2 (upd (upd (upd (upd i7 62 0) 63 0) 64 0) 65 0) j7)), ((p2 26), .inl (cI, 2, .inl (upd (fun _ => 0) 0 (-1))))]) (wr := [((p2 49), .inl (cI, 22, .inl (fun _ => 0))), ((p2 50), .inl (cI, 22, .inl (fun _ => 0))), ((p2 51), .inl (cI, 22, .inl (fun _ => 0))), ((p2 52), .inl (cI, 22, .inl (fun _ => 0)))]) (fun hPc hDc hFc => va_runV (As := []) (rest := []) ⟨hx, hb, hml, hown, hts⟩ (c_X7_roomNow_v0 l dC dI cI cJ cZ cM p0 p2 H.size) (cwV 0 hts gX7_has_X7_roomNow rfl rfl rfl (by decide +kernel) ⟨(Nat.le_of_ble_eq_true rfl), (Nat.le_of_ble_eq_true rfl)⟩) (k_pV hPc hDc hK hN hC hS hFc hP (q0 := 1) (ci := 7) rfl rfl) rfl rfl hl.1 rfl (lv_room (Nat.le_of_ble_eq_true rfl)) dX7_has_136 ⟨(Nat.le_of_ble_eq_true rfl), (Nat.le_of_ble_eq_true rfl)⟩) hP hD hS hA [1, 0] [2, 3, 4, 5] rfl rfl rfl rfl (by decide) (fun _ => rfl) 0 0 rfl rfl (fun r_4 u_5 H locs hw hP hD hS => ?_)
  obtain rfl : r_4 = 99 := hw
  have hP : va_P (dC, dI) vwCl [((p2 49), .inl (cI, 22, .inl (fun _ => 0))), ((p2 50), .inl (cI, 22, .inl (fun _ => 0))), ((p2 51), .inl (cI, 22, .inl (fun _ => 0))), ((p2 52), .inl (cI, 22, .inl (fun _ => 0))), (p0, .inr (7, oM p2 (upd (upd (upd (upd (upd i7 62 0) 63 0) 64 0) 65 0) 66 (-1)) j7)), ((p2 26), .inl (cI, 2, .inl (upd (fun _ => 0) 0 (-1))))] H := hP
  have hD : va_D A [((p2 49), .inl (cI, 22, .inl (fun _ => 0))), ((p2 50), .inl (cI, 22, .inl (fun _ => 0))), ((p2 51), .inl (cI, 22, .inl (fun _ => 0))), ((p2 52), .inl (cI, 22, .inl (fun _ => 0))), (p0, .inr (7, oM p2 (upd (upd (upd (upd (upd i7 62 0) 63 0) 64 0) 65 0) 66 (-1)) j7)), ((p2 26), .inl (cI, 2, .inl (upd (fun _ => 0) 0 (-1))))] := hD
  exact k_ri B hP hD hS dX7_has_139 () [4, 0, 1, 2, 3, 5] rfl rfl rfl (Nat.le_of_ble_eq_true rfl) (Nat.le_of_ble_eq_true rfl) rfl
set_option maxHeartbeats 4000000 in
set_option maxRecDepth 100000 in
theorem c_X7_isContent_v0 (l : Launch) (dC : Nat → ClassId) (dI : Nat → Nat → Nat) (cI cJ cZ cM : ClassId) (p0 : Nat) (p1 : Nat → Nat)   : k_Mi l yX7_isContent wsX7_isContent ({ frames := 1, cells := 0, slots := 0, locals := 40 }) (dC, dI) vwCl (tyy cI cJ cZ cM) [(p0, .inr (7, oM p1 (upd (upd (upd (upd i7 62 0) 63 0) 64 0) 65 0) j7)), ((p1 28), .inl (cI, 2, .inl (upd (fun _ => 0) 0 (-1))))] [.ref p0] 0 0 (fun (u9 : Unit) => [(p0, .inr (7, oM p1 (upd (upd (upd (upd (upd i7 62 0) 63 0) 64 0) 65 0) 66 (-1)) j7)), ((p1 28), .inl (cI, 2, .inl (upd (fun _ => 0) 0 (-1))))]) (fun (r9 : Int32) (u9 : Unit) => r9 = 0) := by
  refine fun sz => k_enter (cc := cX7_isContent) (maxL := 1) (ret := some (.boolean)) (Qc := fun A => va_Qi (fun (r9 : Int32) (u9 : Unit) => r9 = 0) (fun u => k_B (dC, dI) vwCl (tyy cI cJ cZ cM) A ((fun (u9 : Unit) => [(p0, .inr (7, oM p1 (upd (upd (upd (upd (upd i7 62 0) 63 0) 64 0) 65 0) 66 (-1)) j7)), ((p1 28), .inl (cI, 2, .inl (upd (fun _ => 0) 0 (-1))))]) u)) A) sz (by decide +kernel) rfl (Nat.le_of_ble_eq_true rfl) (fun p e s m args below meth c A ls H locs B hP hD hS hl => ?_)
  obtain ⟨hx, hb, hml, hown, hts, hr, hlk, hnm, hK, hA, hN, hC⟩ := id B
  have hown : s.vm.findClass RX7 = some m.cls := hown
  have hl : lv_has ls 1 [(0, .ref p0)] := hl
  have w_0 : (Cond.fieldLink RX7 213 "WishSeaModel" "askedWish" "I").before args s = true := hts _ (List.mem_of_getElem? (i := 1) rfl)
  have w_1 : (Cond.fieldLink RX7 96 "WishSeaModel" "contentFrom" "[I").before args s = true := hts _ (List.mem_of_getElem? (i := 2) rfl)
  have w_2 : (Cond.fieldLink RX7 51 "WishSeaModel" "bank" "I").before args s = true := hts _ (List.mem_of_getElem? (i := 3) rfl)
  have hinX7 : ∀ w ∈ u_ws RX7 TX7 92, w ∈ wsX7_isContent := fun _ h => List.mem_cons_of_mem _ (List.mem_append_right _ h)
  refine lv_aload_n hx hb dX7_isContent_0 rfl (lv_at hl 0 rfl) ?_
  refine lv_iconst (v := (-1)) hx hb dX7_isContent_1 (by decide +kernel) ?_
  refine k_put (D := (dC, dI)) (ci := 7) (v := .int (-1)) (C := RX7) (T := TX7) (N := 92) (ws' := [(p0, .inr (7, oM p1 (upd (upd (upd (upd (upd i7 62 0) 63 0) 64 0) 65 0) 66 (-1)) j7)), ((p1 28), .inl (cI, 2, .inl (upd (fun _ => 0) 0 (-1))))]) hx hb hts hinX7 tyX7 tyX7_ok nmX7 hown hK hP hD hS 0 rfl rfl 66 (by decide) w_0 rfl rfl rfl rfl (Nat.le_of_ble_eq_true rfl) rfl dX7_isContent_2 (fun H locs hP hD hS => ?_)
  refine lv_aload_n hx hb dX7_isContent_5 rfl (lv_at hl 0 rfl) ?_
  refine k_get (D := (dC, dI)) (ci := 7) (v := .ref (p1 28)) (C := RX7) (T := TX7) (N := 92) hx hb hts hinX7 hown hK hP 0 rfl rfl 28 (by decide) w_1 rfl rfl dX7_isContent_6 ?_
  refine lv_aload_n hx hb dX7_isContent_9 rfl (lv_at hl 0 rfl) ?_
  refine k_get (D := (dC, dI)) (ci := 7) (v := .int 0) (C := RX7) (T := TX7) (N := 92) hx hb hts hinX7 hown hK hP 0 rfl rfl 13 (by decide) w_2 rfl rfl dX7_isContent_10 ?_
  refine k_iald (v := (-1)) hx hb hK hP 1 0 0 rfl rfl rfl (Nat.le_of_ble_eq_true rfl) (Nat.le_of_ble_eq_true rfl) rfl dX7_isContent_13 ?_
  refine lv_iconst (v := (-1)) hx hb dX7_isContent_14 (by decide +kernel) ?_
  refine lv_icmp_eq (tgt := 49) hx hb dX7_isContent_15 (by decide) (fun _ => ?_) (fun q9 => absurd q9 (by decide +kernel))
  refine lv_iconst (v := 0) hx hb dX7_isContent_49 (by decide +kernel) ?_
  exact k_ri B hP hD hS dX7_isContent_50 () [0, 1] rfl rfl rfl (Nat.le_of_ble_eq_true rfl) (Nat.le_of_ble_eq_true rfl) rfl
set_option maxHeartbeats 4000000 in
set_option maxRecDepth 100000 in
theorem c_X7_has_v8 (l : Launch) (dC : Nat → ClassId) (dI : Nat → Nat → Nat) (cI cJ cZ cM : ClassId) (p0 : Nat) (p1 : Int32) (p2 : Nat → Nat) (b_0 : 8 ≤ p1.toInt) (t_0 : p1.toInt ≤ 8)  : k_Mi l yX7_has wsX7_has ({ frames := 3, cells := 0, slots := 0, locals := 85 }) (dC, dI) vwCl (tyy cI cJ cZ cM) [(p0, .inr (7, oM p2 i7 j7)), ((p2 49), .inl (cI, 22, .inl (fun _ => 0))), ((p2 50), .inl (cI, 22, .inl (fun _ => 0))), ((p2 51), .inl (cI, 22, .inl (fun _ => 0))), ((p2 52), .inl (cI, 22, .inl (fun _ => 0))), ((p2 28), .inl (cI, 2, .inl (upd (fun _ => 0) 0 (-1))))] [.ref p0, .int p1] 0 0 (fun (u9 : Unit) => [(p0, .inr (7, oM p2 (upd (upd (upd (upd (upd i7 62 0) 63 0) 64 0) 65 0) 66 (-1)) j7)), ((p2 49), .inl (cI, 22, .inl (fun _ => 0))), ((p2 50), .inl (cI, 22, .inl (fun _ => 0))), ((p2 51), .inl (cI, 22, .inl (fun _ => 0))), ((p2 52), .inl (cI, 22, .inl (fun _ => 0))), ((p2 28), .inl (cI, 2, .inl (upd (fun _ => 0) 0 (-1))))]) (fun (r9 : Int32) (u9 : Unit) => r9 = 0) := by
  refine fun sz => k_enter (cc := cX7_has) (maxL := 2) (ret := some (.int)) (Qc := fun A => va_Qi (fun (r9 : Int32) (u9 : Unit) => r9 = 0) (fun u => k_B (dC, dI) vwCl (tyy cI cJ cZ cM) A ((fun (u9 : Unit) => [(p0, .inr (7, oM p2 (upd (upd (upd (upd (upd i7 62 0) 63 0) 64 0) 65 0) 66 (-1)) j7)), ((p2 49), .inl (cI, 22, .inl (fun _ => 0))), ((p2 50), .inl (cI, 22, .inl (fun _ => 0))), ((p2 51), .inl (cI, 22, .inl (fun _ => 0))), ((p2 52), .inl (cI, 22, .inl (fun _ => 0))), ((p2 28), .inl (cI, 2, .inl (upd (fun _ => 0) 0 (-1))))]) u)) A) sz (by decide +kernel) rfl (Nat.le_of_ble_eq_true rfl) (fun p e s m args below meth c A ls H locs B hP hD hS hl => ?_)
  obtain ⟨hx, hb, hml, hown, hts, hr, hlk, hnm, hK, hA, hN, hC⟩ := id B
  have hown : s.vm.findClass RX7 = some m.cls := hown
  have hl : lv_has ls 2 [(0, .ref p0), (1, .int p1)] := hl
  rcases (show p1.toInt = 8 by omega) with c_1
  obtain rfl : p1 = 8 := k_eqL (by decide +kernel) c_1
  refine lv_aload_n hx hb dX7_has_0 rfl (lv_at hl 0 rfl) ?_
  refine lv_iconst (v := 0) hx hb dX7_has_1 (by decide +kernel) ?_
  refine k_cv (wc := [(p0, .inr (7, oM p2 i7 j7)), ((p2 49), .inl (cI, 22, .inl (fun _ => 0))), ((p2 50), .inl (cI, 22, .inl (fun _ => 0))), ((p2 51), .inl (cI, 22, .inl (fun _ => 0))), ((p2 52), .inl (cI, 22, .inl (fun _ => 0)))]) (wr := [((p2 28), .inl (cI, 2, .inl (upd (fun _ => 0) 0 (-1))))]) (fun hPc hDc hFc => va_runV (As := [.int 0]) (rest := []) ⟨hx, hb, hml, hown, hts⟩ (c_X7_asksLayer_v0 l dC dI cI cJ cZ cM p0 p2 H.size) (cwV 1 hts gX7_has_X7_asksLayer rfl rfl rfl (by decide +kernel) ⟨(Nat.le_of_ble_eq_true rfl), (Nat.le_of_ble_eq_true rfl)⟩) (k_pV hPc hDc hK hN hC hS hFc hP (q0 := 0) (ci := 7) rfl rfl) rfl rfl hl.1 rfl (lv_room (Nat.le_of_ble_eq_true rfl)) dX7_has_2 ⟨(Nat.le_of_ble_eq_true rfl), (Nat.le_of_ble_eq_true rfl)⟩) hP hD hS hA [0, 1, 2, 3, 4] [5] rfl rfl rfl rfl (by decide) (fun _ => rfl) 0 0 rfl rfl (fun u_3 H locs hw hP hD hS => ?_)
  have hP : va_P (dC, dI) vwCl [((p2 28), .inl (cI, 2, .inl (upd (fun _ => 0) 0 (-1)))), (p0, .inr (7, oM p2 (upd (upd (upd (upd i7 62 0) 63 0) 64 0) 65 0) j7)), ((p2 49), .inl (cI, 22, .inl (fun _ => 0))), ((p2 50), .inl (cI, 22, .inl (fun _ => 0))), ((p2 51), .inl (cI, 22, .inl (fun _ => 0))), ((p2 52), .inl (cI, 22, .inl (fun _ => 0)))] H := hP
  have hD : va_D A [((p2 28), .inl (cI, 2, .inl (upd (fun _ => 0) 0 (-1)))), (p0, .inr (7, oM p2 (upd (upd (upd (upd i7 62 0) 63 0) 64 0) 65 0) j7)), ((p2 49), .inl (cI, 22, .inl (fun _ => 0))), ((p2 50), .inl (cI, 22, .inl (fun _ => 0))), ((p2 51), .inl (cI, 22, .inl (fun _ => 0))), ((p2 52), .inl (cI, 22, .inl (fun _ => 0)))] := hD
  refine lv_iload_n hx hb dX7_has_5 rfl (lv_at hl 1 rfl) ?_
  refine lv_tableIn (off := 134) (tgt := 140) hx hb dX7_has_6 (by decide +kernel) (by decide +kernel) (by decide +kernel) (by decide +kernel) ?_
  refine lv_aload_n hx hb dX7_has_140 rfl (lv_at hl 0 rfl) ?_
  refine k_ci (wc := [(p0, .inr (7, oM p2 (upd (upd (upd (upd i7 62 0) 63 0) 64 0) 65 0) j7)), ((p2 28), .inl (cI, 2, .inl (upd (fun _ => 0) 0 (-1))))]) (wr := [((p2 49), .inl (cI, 22, .inl (fun _ => 0))), ((p2 50), .inl (cI, 22, .inl (fun _ => 0))), ((p2 51), .inl (cI, 22, .inl (fun _ => 0))), ((p2 52), .inl (cI, 22, .inl (fun _ => 0)))]) (fun hPc hDc hFc => va_runV (As := []) (rest := []) ⟨hx, hb, hml, hown, hts⟩ (c_X7_isContent_v0 l dC dI cI cJ cZ cM p0 p2 H.size) (cwV 0 hts gX7_has_X7_isContent rfl rfl rfl (by decide +kernel) ⟨(Nat.le_of_ble_eq_true rfl), (Nat.le_of_ble_eq_true rfl)⟩) (k_pV hPc hDc hK hN hC hS hFc hP (q0 := 1) (ci := 7) rfl rfl) rfl rfl hl.1 rfl (lv_room (Nat.le_of_ble_eq_true rfl)) dX7_has_141 ⟨(Nat.le_of_ble_eq_true rfl), (Nat.le_of_ble_eq_true rfl)⟩) hP hD hS hA [1, 0] [2, 3, 4, 5] rfl rfl rfl rfl (by decide) (fun _ => rfl) 0 0 rfl rfl (fun r_4 u_5 H locs hw hP hD hS => ?_)
  obtain rfl : r_4 = 0 := hw
  have hP : va_P (dC, dI) vwCl [((p2 49), .inl (cI, 22, .inl (fun _ => 0))), ((p2 50), .inl (cI, 22, .inl (fun _ => 0))), ((p2 51), .inl (cI, 22, .inl (fun _ => 0))), ((p2 52), .inl (cI, 22, .inl (fun _ => 0))), (p0, .inr (7, oM p2 (upd (upd (upd (upd (upd i7 62 0) 63 0) 64 0) 65 0) 66 (-1)) j7)), ((p2 28), .inl (cI, 2, .inl (upd (fun _ => 0) 0 (-1))))] H := hP
  have hD : va_D A [((p2 49), .inl (cI, 22, .inl (fun _ => 0))), ((p2 50), .inl (cI, 22, .inl (fun _ => 0))), ((p2 51), .inl (cI, 22, .inl (fun _ => 0))), ((p2 52), .inl (cI, 22, .inl (fun _ => 0))), (p0, .inr (7, oM p2 (upd (upd (upd (upd (upd i7 62 0) 63 0) 64 0) 65 0) 66 (-1)) j7)), ((p2 28), .inl (cI, 2, .inl (upd (fun _ => 0) 0 (-1))))] := hD
  refine lv_if_eq (tgt := 151) hx hb dX7_has_144 (by decide) (fun _ => ?_) (fun q9 => absurd q9 (by decide +kernel))
  refine lv_iconst (v := 0) hx hb dX7_has_151 (by decide +kernel) ?_
  exact k_ri B hP hD hS dX7_has_152 () [4, 0, 1, 2, 3, 5] rfl rfl rfl (Nat.le_of_ble_eq_true rfl) (Nat.le_of_ble_eq_true rfl) rfl
set_option maxHeartbeats 4000000 in
set_option maxRecDepth 100000 in
theorem c_X7_has_v9 (l : Launch) (dC : Nat → ClassId) (dI : Nat → Nat → Nat) (cI cJ cZ cM : ClassId) (p0 : Nat) (p1 : Int32) (p2 : Nat → Nat) (b_0 : 9 ≤ p1.toInt) (t_0 : p1.toInt ≤ 9)  : k_Mi l yX7_has wsX7_has ({ frames := 3, cells := 0, slots := 0, locals := 85 }) (dC, dI) vwCl (tyy cI cJ cZ cM) [(p0, .inr (7, oM p2 i7 j7)), ((p2 49), .inl (cI, 22, .inl (fun _ => 0))), ((p2 50), .inl (cI, 22, .inl (fun _ => 0))), ((p2 51), .inl (cI, 22, .inl (fun _ => 0))), ((p2 52), .inl (cI, 22, .inl (fun _ => 0))), ((p2 30), .inl (cI, 2, .inl (upd (fun _ => 0) 0 100)))] [.ref p0, .int p1] 0 0 (fun (u9 : Unit) => [(p0, .inr (7, oM p2 (upd (upd (upd (upd i7 62 0) 63 0) 64 0) 65 0) j7)), ((p2 49), .inl (cI, 22, .inl (fun _ => 0))), ((p2 50), .inl (cI, 22, .inl (fun _ => 0))), ((p2 51), .inl (cI, 22, .inl (fun _ => 0))), ((p2 52), .inl (cI, 22, .inl (fun _ => 0))), ((p2 30), .inl (cI, 2, .inl (upd (fun _ => 0) 0 100)))]) (fun (r9 : Int32) (u9 : Unit) => r9 = 100) := by
  refine fun sz => k_enter (cc := cX7_has) (maxL := 2) (ret := some (.int)) (Qc := fun A => va_Qi (fun (r9 : Int32) (u9 : Unit) => r9 = 100) (fun u => k_B (dC, dI) vwCl (tyy cI cJ cZ cM) A ((fun (u9 : Unit) => [(p0, .inr (7, oM p2 (upd (upd (upd (upd i7 62 0) 63 0) 64 0) 65 0) j7)), ((p2 49), .inl (cI, 22, .inl (fun _ => 0))), ((p2 50), .inl (cI, 22, .inl (fun _ => 0))), ((p2 51), .inl (cI, 22, .inl (fun _ => 0))), ((p2 52), .inl (cI, 22, .inl (fun _ => 0))), ((p2 30), .inl (cI, 2, .inl (upd (fun _ => 0) 0 100)))]) u)) A) sz (by decide +kernel) rfl (Nat.le_of_ble_eq_true rfl) (fun p e s m args below meth c A ls H locs B hP hD hS hl => ?_)
  obtain ⟨hx, hb, hml, hown, hts, hr, hlk, hnm, hK, hA, hN, hC⟩ := id B
  have hown : s.vm.findClass RX7 = some m.cls := hown
  have hl : lv_has ls 2 [(0, .ref p0), (1, .int p1)] := hl
  have w_0 : (Cond.fieldLink RX7 102 "WishSeaModel" "bearing" "[I").before args s = true := hts _ (List.mem_of_getElem? (i := 8) rfl)
  have w_1 : (Cond.fieldLink RX7 51 "WishSeaModel" "bank" "I").before args s = true := hts _ (List.mem_of_getElem? (i := 2) rfl)
  have hinX7 : ∀ w ∈ u_ws RX7 TX7 92, w ∈ wsX7_has := fun _ h => List.mem_cons_of_mem _ (List.mem_append_right _ h)
  rcases (show p1.toInt = 9 by omega) with c_1
  obtain rfl : p1 = 9 := k_eqL (by decide +kernel) c_1
  refine lv_aload_n hx hb dX7_has_0 rfl (lv_at hl 0 rfl) ?_
  refine lv_iconst (v := 0) hx hb dX7_has_1 (by decide +kernel) ?_
  refine k_cv (wc := [(p0, .inr (7, oM p2 i7 j7)), ((p2 49), .inl (cI, 22, .inl (fun _ => 0))), ((p2 50), .inl (cI, 22, .inl (fun _ => 0))), ((p2 51), .inl (cI, 22, .inl (fun _ => 0))), ((p2 52), .inl (cI, 22, .inl (fun _ => 0)))]) (wr := [((p2 30), .inl (cI, 2, .inl (upd (fun _ => 0) 0 100)))]) (fun hPc hDc hFc => va_runV (As := [.int 0]) (rest := []) ⟨hx, hb, hml, hown, hts⟩ (c_X7_asksLayer_v0 l dC dI cI cJ cZ cM p0 p2 H.size) (cwV 1 hts gX7_has_X7_asksLayer rfl rfl rfl (by decide +kernel) ⟨(Nat.le_of_ble_eq_true rfl), (Nat.le_of_ble_eq_true rfl)⟩) (k_pV hPc hDc hK hN hC hS hFc hP (q0 := 0) (ci := 7) rfl rfl) rfl rfl hl.1 rfl (lv_room (Nat.le_of_ble_eq_true rfl)) dX7_has_2 ⟨(Nat.le_of_ble_eq_true rfl), (Nat.le_of_ble_eq_true rfl)⟩) hP hD hS hA [0, 1, 2, 3, 4] [5] rfl rfl rfl rfl (by decide) (fun _ => rfl) 0 0 rfl rfl (fun u_3 H locs hw hP hD hS => ?_)
  have hP : va_P (dC, dI) vwCl [((p2 30), .inl (cI, 2, .inl (upd (fun _ => 0) 0 100))), (p0, .inr (7, oM p2 (upd (upd (upd (upd i7 62 0) 63 0) 64 0) 65 0) j7)), ((p2 49), .inl (cI, 22, .inl (fun _ => 0))), ((p2 50), .inl (cI, 22, .inl (fun _ => 0))), ((p2 51), .inl (cI, 22, .inl (fun _ => 0))), ((p2 52), .inl (cI, 22, .inl (fun _ => 0)))] H := hP
  have hD : va_D A [((p2 30), .inl (cI, 2, .inl (upd (fun _ => 0) 0 100))), (p0, .inr (7, oM p2 (upd (upd (upd (upd i7 62 0) 63 0) 64 0) 65 0) j7)), ((p2 49), .inl (cI, 22, .inl (fun _ => 0))), ((p2 50), .inl (cI, 22, .inl (fun _ => 0))), ((p2 51), .inl (cI, 22, .inl (fun _ => 0))), ((p2 52), .inl (cI, 22, .inl (fun _ => 0)))] := hD
  refine lv_iload_n hx hb dX7_has_5 rfl (lv_at hl 1 rfl) ?_
  refine lv_tableIn (off := 147) (tgt := 153) hx hb dX7_has_6 (by decide +kernel) (by decide +kernel) (by decide +kernel) (by decide +kernel) ?_
  refine lv_aload_n hx hb dX7_has_153 rfl (lv_at hl 0 rfl) ?_
  refine k_get (D := (dC, dI)) (ci := 7) (v := .ref (p2 30)) (C := RX7) (T := TX7) (N := 92) hx hb hts hinX7 hown hK hP 1 rfl rfl 30 (by decide) w_0 rfl rfl dX7_has_154 ?_
  refine lv_aload_n hx hb dX7_has_157 rfl (lv_at hl 0 rfl) ?_
  refine k_get (D := (dC, dI)) (ci := 7) (v := .int 0) (C := RX7) (T := TX7) (N := 92) hx hb hts hinX7 hown hK hP 1 rfl rfl 13 (by decide) w_1 rfl rfl dX7_has_158 ?_
  refine k_iald (v := 100) hx hb hK hP 0 0 0 rfl rfl rfl (Nat.le_of_ble_eq_true rfl) (Nat.le_of_ble_eq_true rfl) rfl dX7_has_161 ?_
  exact k_ri B hP hD hS dX7_has_162 () [1, 2, 3, 4, 5, 0] rfl rfl rfl (Nat.le_of_ble_eq_true rfl) (Nat.le_of_ble_eq_true rfl) rfl
set_option maxHeartbeats 4000000 in
set_option maxRecDepth 100000 in
theorem c_X7_has_v10 (l : Launch) (dC : Nat → ClassId) (dI : Nat → Nat → Nat) (cI cJ cZ cM : ClassId) (p0 : Nat) (p1 : Int32) (p2 : Nat → Nat) (b_0 : 10 ≤ p1.toInt) (t_0 : p1.toInt ≤ 10)  : k_Mi l yX7_has wsX7_has ({ frames := 3, cells := 0, slots := 0, locals := 85 }) (dC, dI) vwCl (tyy cI cJ cZ cM) [(p0, .inr (7, oM p2 i7 j7)), ((p2 49), .inl (cI, 22, .inl (fun _ => 0))), ((p2 50), .inl (cI, 22, .inl (fun _ => 0))), ((p2 51), .inl (cI, 22, .inl (fun _ => 0))), ((p2 52), .inl (cI, 22, .inl (fun _ => 0))), ((p2 31), .inl (cI, 2, .inl (fun _ => 0)))] [.ref p0, .int p1] 0 0 (fun (u9 : Unit) => [(p0, .inr (7, oM p2 (upd (upd (upd (upd i7 62 0) 63 0) 64 0) 65 0) j7)), ((p2 49), .inl (cI, 22, .inl (fun _ => 0))), ((p2 50), .inl (cI, 22, .inl (fun _ => 0))), ((p2 51), .inl (cI, 22, .inl (fun _ => 0))), ((p2 52), .inl (cI, 22, .inl (fun _ => 0))), ((p2 31), .inl (cI, 2, .inl (fun _ => 0)))]) (fun (r9 : Int32) (u9 : Unit) => r9 = 0) := by
  refine fun sz => k_enter (cc := cX7_has) (maxL := 2) (ret := some (.int)) (Qc := fun A => va_Qi (fun (r9 : Int32) (u9 : Unit) => r9 = 0) (fun u => k_B (dC, dI) vwCl (tyy cI cJ cZ cM) A ((fun (u9 : Unit) => [(p0, .inr (7, oM p2 (upd (upd (upd (upd i7 62 0) 63 0) 64 0) 65 0) j7)), ((p2 49), .inl (cI, 22, .inl (fun _ => 0))), ((p2 50), .inl (cI, 22, .inl (fun _ => 0))), ((p2 51), .inl (cI, 22, .inl (fun _ => 0))), ((p2 52), .inl (cI, 22, .inl (fun _ => 0))), ((p2 31), .inl (cI, 2, .inl (fun _ => 0)))]) u)) A) sz (by decide +kernel) rfl (Nat.le_of_ble_eq_true rfl) (fun p e s m args below meth c A ls H locs B hP hD hS hl => ?_)
  obtain ⟨hx, hb, hml, hown, hts, hr, hlk, hnm, hK, hA, hN, hC⟩ := id B
  have hown : s.vm.findClass RX7 = some m.cls := hown
  have hl : lv_has ls 2 [(0, .ref p0), (1, .int p1)] := hl
  have w_0 : (Cond.fieldLink RX7 105 "WishSeaModel" "calming" "[I").before args s = true := hts _ (List.mem_of_getElem? (i := 9) rfl)
  have w_1 : (Cond.fieldLink RX7 51 "WishSeaModel" "bank" "I").before args s = true := hts _ (List.mem_of_getElem? (i := 2) rfl)
  have hinX7 : ∀ w ∈ u_ws RX7 TX7 92, w ∈ wsX7_has := fun _ h => List.mem_cons_of_mem _ (List.mem_append_right _ h)
  rcases (show p1.toInt = 10 by omega) with c_1
  obtain rfl : p1 = 10 := k_eqL (by decide +kernel) c_1
  refine lv_aload_n hx hb dX7_has_0 rfl (lv_at hl 0 rfl) ?_
  refine lv_iconst (v := 0) hx hb dX7_has_1 (by decide +kernel) ?_
  refine k_cv (wc := [(p0, .inr (7, oM p2 i7 j7)), ((p2 49), .inl (cI, 22, .inl (fun _ => 0))), ((p2 50), .inl (cI, 22, .inl (fun _ => 0))), ((p2 51), .inl (cI, 22, .inl (fun _ => 0))), ((p2 52), .inl (cI, 22, .inl (fun _ => 0)))]) (wr := [((p2 31), .inl (cI, 2, .inl (fun _ => 0)))]) (fun hPc hDc hFc => va_runV (As := [.int 0]) (rest := []) ⟨hx, hb, hml, hown, hts⟩ (c_X7_asksLayer_v0 l dC dI cI cJ cZ cM p0 p2 H.size) (cwV 1 hts gX7_has_X7_asksLayer rfl rfl rfl (by decide +kernel) ⟨(Nat.le_of_ble_eq_true rfl), (Nat.le_of_ble_eq_true rfl)⟩) (k_pV hPc hDc hK hN hC hS hFc hP (q0 := 0) (ci := 7) rfl rfl) rfl rfl hl.1 rfl (lv_room (Nat.le_of_ble_eq_true rfl)) dX7_has_2 ⟨(Nat.le_of_ble_eq_true rfl), (Nat.le_of_ble_eq_true rfl)⟩) hP hD hS hA [0, 1, 2, 3, 4] [5] rfl rfl rfl rfl (by decide) (fun _ => rfl) 0 0 rfl rfl (fun u_3 H locs hw hP hD hS => ?_)
  have hP : va_P (dC, dI) vwCl [((p2 31), .inl (cI, 2, .inl (fun _ => 0))), (p0, .inr (7, oM p2 (upd (upd (upd (upd i7 62 0) 63 0) 64 0) 65 0) j7)), ((p2 49), .inl (cI, 22, .inl (fun _ => 0))), ((p2 50), .inl (cI, 22, .inl (fun _ => 0))), ((p2 51), .inl (cI, 22, .inl (fun _ => 0))), ((p2 52), .inl (cI, 22, .inl (fun _ => 0)))] H := hP
  have hD : va_D A [((p2 31), .inl (cI, 2, .inl (fun _ => 0))), (p0, .inr (7, oM p2 (upd (upd (upd (upd i7 62 0) 63 0) 64 0) 65 0) j7)), ((p2 49), .inl (cI, 22, .inl (fun _ => 0))), ((p2 50), .inl (cI, 22, .inl (fun _ => 0))), ((p2 51), .inl (cI, 22, .inl (fun _ => 0))), ((p2 52), .inl (cI, 22, .inl (fun _ => 0)))] := hD
  refine lv_iload_n hx hb dX7_has_5 rfl (lv_at hl 1 rfl) ?_
  refine lv_tableIn (off := 157) (tgt := 163) hx hb dX7_has_6 (by decide +kernel) (by decide +kernel) (by decide +kernel) (by decide +kernel) ?_
  refine lv_aload_n hx hb dX7_has_163 rfl (lv_at hl 0 rfl) ?_
  refine k_get (D := (dC, dI)) (ci := 7) (v := .ref (p2 31)) (C := RX7) (T := TX7) (N := 92) hx hb hts hinX7 hown hK hP 1 rfl rfl 31 (by decide) w_0 rfl rfl dX7_has_164 ?_
  refine lv_aload_n hx hb dX7_has_167 rfl (lv_at hl 0 rfl) ?_
  refine k_get (D := (dC, dI)) (ci := 7) (v := .int 0) (C := RX7) (T := TX7) (N := 92) hx hb hts hinX7 hown hK hP 1 rfl rfl 13 (by decide) w_1 rfl rfl dX7_has_168 ?_
  refine k_iald (v := 0) hx hb hK hP 0 0 0 rfl rfl rfl (Nat.le_of_ble_eq_true rfl) (Nat.le_of_ble_eq_true rfl) rfl dX7_has_171 ?_
  exact k_ri B hP hD hS dX7_has_172 () [1, 2, 3, 4, 5, 0] rfl rfl rfl (Nat.le_of_ble_eq_true rfl) (Nat.le_of_ble_eq_true rfl) rfl
set_option maxHeartbeats 4000000 in
set_option maxRecDepth 100000 in
theorem c_X7_has_v11 (l : Launch) (dC : Nat → ClassId) (dI : Nat → Nat → Nat) (cI cJ cZ cM : ClassId) (p0 : Nat) (p1 : Int32) (p2 : Nat → Nat) (b_0 : 11 ≤ p1.toInt) (t_0 : p1.toInt ≤ 11)  : k_Mi l yX7_has wsX7_has ({ frames := 3, cells := 0, slots := 0, locals := 85 }) (dC, dI) vwCl (tyy cI cJ cZ cM) [(p0, .inr (7, oM p2 i7 j7)), ((p2 49), .inl (cI, 22, .inl (fun _ => 0))), ((p2 50), .inl (cI, 22, .inl (fun _ => 0))), ((p2 51), .inl (cI, 22, .inl (fun _ => 0))), ((p2 52), .inl (cI, 22, .inl (fun _ => 0))), ((p2 53), .inl (cI, 22, .inl (fun _ => 0)))] [.ref p0, .int p1] 0 0 (fun (u9 : Unit) => [(p0, .inr (7, oM p2 (upd (upd (upd (upd i7 62 0) 63 0) 64 0) 65 0) j7)), ((p2 49), .inl (cI, 22, .inl (fun _ => 0))), ((p2 50), .inl (cI, 22, .inl (fun _ => 0))), ((p2 51), .inl (cI, 22, .inl (fun _ => 0))), ((p2 52), .inl (cI, 22, .inl (fun _ => 0))), ((p2 53), .inl (cI, 22, .inl (fun _ => 0)))]) (fun (r9 : Int32) (u9 : Unit) => r9 = 0) := by
  refine fun sz => k_enter (cc := cX7_has) (maxL := 2) (ret := some (.int)) (Qc := fun A => va_Qi (fun (r9 : Int32) (u9 : Unit) => r9 = 0) (fun u => k_B (dC, dI) vwCl (tyy cI cJ cZ cM) A ((fun (u9 : Unit) => [(p0, .inr (7, oM p2 (upd (upd (upd (upd i7 62 0) 63 0) 64 0) 65 0) j7)), ((p2 49), .inl (cI, 22, .inl (fun _ => 0))), ((p2 50), .inl (cI, 22, .inl (fun _ => 0))), ((p2 51), .inl (cI, 22, .inl (fun _ => 0))), ((p2 52), .inl (cI, 22, .inl (fun _ => 0))), ((p2 53), .inl (cI, 22, .inl (fun _ => 0)))]) u)) A) sz (by decide +kernel) rfl (Nat.le_of_ble_eq_true rfl) (fun p e s m args below meth c A ls H locs B hP hD hS hl => ?_)
  obtain ⟨hx, hb, hml, hown, hts, hr, hlk, hnm, hK, hA, hN, hC⟩ := id B
  have hown : s.vm.findClass RX7 = some m.cls := hown
  have hl : lv_has ls 2 [(0, .ref p0), (1, .int p1)] := hl
  have w_0 : (Cond.fieldLink RX7 174 "WishSeaModel" "keptMany" "[I").before args s = true := hts _ (List.mem_of_getElem? (i := 10) rfl)
  have hinX7 : ∀ w ∈ u_ws RX7 TX7 92, w ∈ wsX7_has := fun _ h => List.mem_cons_of_mem _ (List.mem_append_right _ h)
  rcases (show p1.toInt = 11 by omega) with c_1
  obtain rfl : p1 = 11 := k_eqL (by decide +kernel) c_1
  refine lv_aload_n hx hb dX7_has_0 rfl (lv_at hl 0 rfl) ?_
  refine lv_iconst (v := 0) hx hb dX7_has_1 (by decide +kernel) ?_
  refine k_cv (wc := [(p0, .inr (7, oM p2 i7 j7)), ((p2 49), .inl (cI, 22, .inl (fun _ => 0))), ((p2 50), .inl (cI, 22, .inl (fun _ => 0))), ((p2 51), .inl (cI, 22, .inl (fun _ => 0))), ((p2 52), .inl (cI, 22, .inl (fun _ => 0)))]) (wr := [((p2 53), .inl (cI, 22, .inl (fun _ => 0)))]) (fun hPc hDc hFc => va_runV (As := [.int 0]) (rest := []) ⟨hx, hb, hml, hown, hts⟩ (c_X7_asksLayer_v0 l dC dI cI cJ cZ cM p0 p2 H.size) (cwV 1 hts gX7_has_X7_asksLayer rfl rfl rfl (by decide +kernel) ⟨(Nat.le_of_ble_eq_true rfl), (Nat.le_of_ble_eq_true rfl)⟩) (k_pV hPc hDc hK hN hC hS hFc hP (q0 := 0) (ci := 7) rfl rfl) rfl rfl hl.1 rfl (lv_room (Nat.le_of_ble_eq_true rfl)) dX7_has_2 ⟨(Nat.le_of_ble_eq_true rfl), (Nat.le_of_ble_eq_true rfl)⟩) hP hD hS hA [0, 1, 2, 3, 4] [5] rfl rfl rfl rfl (by decide) (fun _ => rfl) 0 0 rfl rfl (fun u_3 H locs hw hP hD hS => ?_)
  have hP : va_P (dC, dI) vwCl [((p2 53), .inl (cI, 22, .inl (fun _ => 0))), (p0, .inr (7, oM p2 (upd (upd (upd (upd i7 62 0) 63 0) 64 0) 65 0) j7)), ((p2 49), .inl (cI, 22, .inl (fun _ => 0))), ((p2 50), .inl (cI, 22, .inl (fun _ => 0))), ((p2 51), .inl (cI, 22, .inl (fun _ => 0))), ((p2 52), .inl (cI, 22, .inl (fun _ => 0)))] H := hP
  have hD : va_D A [((p2 53), .inl (cI, 22, .inl (fun _ => 0))), (p0, .inr (7, oM p2 (upd (upd (upd (upd i7 62 0) 63 0) 64 0) 65 0) j7)), ((p2 49), .inl (cI, 22, .inl (fun _ => 0))), ((p2 50), .inl (cI, 22, .inl (fun _ => 0))), ((p2 51), .inl (cI, 22, .inl (fun _ => 0))), ((p2 52), .inl (cI, 22, .inl (fun _ => 0)))] := hD
  refine lv_iload_n hx hb dX7_has_5 rfl (lv_at hl 1 rfl) ?_
  refine lv_tableIn (off := 167) (tgt := 173) hx hb dX7_has_6 (by decide +kernel) (by decide +kernel) (by decide +kernel) (by decide +kernel) ?_
  refine lv_aload_n hx hb dX7_has_173 rfl (lv_at hl 0 rfl) ?_
  refine k_get (D := (dC, dI)) (ci := 7) (v := .ref (p2 53)) (C := RX7) (T := TX7) (N := 92) hx hb hts hinX7 hown hK hP 1 rfl rfl 53 (by decide) w_0 rfl rfl dX7_has_174 ?_
  refine lv_iconst (v := 0) hx hb dX7_has_177 (by decide +kernel) ?_
  refine k_iald (v := 0) hx hb hK hP 0 0 0 rfl rfl rfl (Nat.le_of_ble_eq_true rfl) (Nat.le_of_ble_eq_true rfl) rfl dX7_has_178 ?_
  exact k_ri B hP hD hS dX7_has_179 () [1, 2, 3, 4, 5, 0] rfl rfl rfl (Nat.le_of_ble_eq_true rfl) (Nat.le_of_ble_eq_true rfl) rfl
set_option maxHeartbeats 4000000 in
set_option maxRecDepth 100000 in
theorem c_X7_has_v12 (l : Launch) (dC : Nat → ClassId) (dI : Nat → Nat → Nat) (cI cJ cZ cM : ClassId) (p0 : Nat) (p1 : Int32) (p2 : Nat → Nat) (b_0 : 12 ≤ p1.toInt) (t_0 : p1.toInt ≤ 12)  : k_Mi l yX7_has wsX7_has ({ frames := 3, cells := 0, slots := 0, locals := 85 }) (dC, dI) vwCl (tyy cI cJ cZ cM) [(p0, .inr (7, oM p2 i7 j7)), ((p2 49), .inl (cI, 22, .inl (fun _ => 0))), ((p2 50), .inl (cI, 22, .inl (fun _ => 0))), ((p2 51), .inl (cI, 22, .inl (fun _ => 0))), ((p2 52), .inl (cI, 22, .inl (fun _ => 0)))] [.ref p0, .int p1] 0 0 (fun (u9 : Unit) => [(p0, .inr (7, oM p2 (upd (upd (upd (upd i7 62 0) 63 0) 64 0) 65 0) j7)), ((p2 49), .inl (cI, 22, .inl (fun _ => 0))), ((p2 50), .inl (cI, 22, .inl (fun _ => 0))), ((p2 51), .inl (cI, 22, .inl (fun _ => 0))), ((p2 52), .inl (cI, 22, .inl (fun _ => 0)))]) (fun (r9 : Int32) (u9 : Unit) => r9 = 0) := by
  refine fun sz => k_enter (cc := cX7_has) (maxL := 2) (ret := some (.int)) (Qc := fun A => va_Qi (fun (r9 : Int32) (u9 : Unit) => r9 = 0) (fun u => k_B (dC, dI) vwCl (tyy cI cJ cZ cM) A ((fun (u9 : Unit) => [(p0, .inr (7, oM p2 (upd (upd (upd (upd i7 62 0) 63 0) 64 0) 65 0) j7)), ((p2 49), .inl (cI, 22, .inl (fun _ => 0))), ((p2 50), .inl (cI, 22, .inl (fun _ => 0))), ((p2 51), .inl (cI, 22, .inl (fun _ => 0))), ((p2 52), .inl (cI, 22, .inl (fun _ => 0)))]) u)) A) sz (by decide +kernel) rfl (Nat.le_of_ble_eq_true rfl) (fun p e s m args below meth c A ls H locs B hP hD hS hl => ?_)
  obtain ⟨hx, hb, hml, hown, hts, hr, hlk, hnm, hK, hA, hN, hC⟩ := id B
  have hown : s.vm.findClass RX7 = some m.cls := hown
  have hl : lv_has ls 2 [(0, .ref p0), (1, .int p1)] := hl
  have w_0 : (Cond.fieldLink RX7 192 "WishSeaModel" "undos" "I").before args s = true := hts _ (List.mem_of_getElem? (i := 11) rfl)
  have hinX7 : ∀ w ∈ u_ws RX7 TX7 92, w ∈ wsX7_has := fun _ h => List.mem_cons_of_mem _ (List.mem_append_right _ h)
  rcases (show p1.toInt = 12 by omega) with c_1
  obtain rfl : p1 = 12 := k_eqL (by decide +kernel) c_1
  refine lv_aload_n hx hb dX7_has_0 rfl (lv_at hl 0 rfl) ?_
  refine lv_iconst (v := 0) hx hb dX7_has_1 (by decide +kernel) ?_
  refine k_cv (wc := [(p0, .inr (7, oM p2 i7 j7)), ((p2 49), .inl (cI, 22, .inl (fun _ => 0))), ((p2 50), .inl (cI, 22, .inl (fun _ => 0))), ((p2 51), .inl (cI, 22, .inl (fun _ => 0))), ((p2 52), .inl (cI, 22, .inl (fun _ => 0)))]) (wr := []) (fun hPc hDc hFc => va_runV (As := [.int 0]) (rest := []) ⟨hx, hb, hml, hown, hts⟩ (c_X7_asksLayer_v0 l dC dI cI cJ cZ cM p0 p2 H.size) (cwV 1 hts gX7_has_X7_asksLayer rfl rfl rfl (by decide +kernel) ⟨(Nat.le_of_ble_eq_true rfl), (Nat.le_of_ble_eq_true rfl)⟩) (k_pV hPc hDc hK hN hC hS hFc hP (q0 := 0) (ci := 7) rfl rfl) rfl rfl hl.1 rfl (lv_room (Nat.le_of_ble_eq_true rfl)) dX7_has_2 ⟨(Nat.le_of_ble_eq_true rfl), (Nat.le_of_ble_eq_true rfl)⟩) hP hD hS hA [0, 1, 2, 3, 4] [] rfl rfl rfl rfl (by decide) (fun _ => rfl) 0 0 rfl rfl (fun u_3 H locs hw hP hD hS => ?_)
  have hP : va_P (dC, dI) vwCl [(p0, .inr (7, oM p2 (upd (upd (upd (upd i7 62 0) 63 0) 64 0) 65 0) j7)), ((p2 49), .inl (cI, 22, .inl (fun _ => 0))), ((p2 50), .inl (cI, 22, .inl (fun _ => 0))), ((p2 51), .inl (cI, 22, .inl (fun _ => 0))), ((p2 52), .inl (cI, 22, .inl (fun _ => 0)))] H := hP
  have hD : va_D A [(p0, .inr (7, oM p2 (upd (upd (upd (upd i7 62 0) 63 0) 64 0) 65 0) j7)), ((p2 49), .inl (cI, 22, .inl (fun _ => 0))), ((p2 50), .inl (cI, 22, .inl (fun _ => 0))), ((p2 51), .inl (cI, 22, .inl (fun _ => 0))), ((p2 52), .inl (cI, 22, .inl (fun _ => 0)))] := hD
  refine lv_iload_n hx hb dX7_has_5 rfl (lv_at hl 1 rfl) ?_
  refine lv_tableIn (off := 174) (tgt := 180) hx hb dX7_has_6 (by decide +kernel) (by decide +kernel) (by decide +kernel) (by decide +kernel) ?_
  refine lv_aload_n hx hb dX7_has_180 rfl (lv_at hl 0 rfl) ?_
  refine k_get (D := (dC, dI)) (ci := 7) (v := .int 0) (C := RX7) (T := TX7) (N := 92) hx hb hts hinX7 hown hK hP 0 rfl rfl 59 (by decide) w_0 rfl rfl dX7_has_181 ?_
  exact k_ri B hP hD hS dX7_has_184 () [0, 1, 2, 3, 4] rfl rfl rfl (Nat.le_of_ble_eq_true rfl) (Nat.le_of_ble_eq_true rfl) rfl
set_option maxHeartbeats 4000000 in
set_option maxRecDepth 100000 in
theorem c_X7_has_v13 (l : Launch) (dC : Nat → ClassId) (dI : Nat → Nat → Nat) (cI cJ cZ cM : ClassId) (p0 : Nat) (p1 : Int32) (p2 : Nat → Nat) (b_0 : 13 ≤ p1.toInt) (t_0 : p1.toInt ≤ 13)  : k_Mi l yX7_has wsX7_has ({ frames := 3, cells := 0, slots := 0, locals := 85 }) (dC, dI) vwCl (tyy cI cJ cZ cM) [(p0, .inr (7, oM p2 i7 j7)), ((p2 49), .inl (cI, 22, .inl (fun _ => 0))), ((p2 50), .inl (cI, 22, .inl (fun _ => 0))), ((p2 51), .inl (cI, 22, .inl (fun _ => 0))), ((p2 52), .inl (cI, 22, .inl (fun _ => 0)))] [.ref p0, .int p1] 0 0 (fun (u9 : Unit) => [(p0, .inr (7, oM p2 (upd (upd (upd (upd i7 62 0) 63 0) 64 0) 65 0) j7)), ((p2 49), .inl (cI, 22, .inl (fun _ => 0))), ((p2 50), .inl (cI, 22, .inl (fun _ => 0))), ((p2 51), .inl (cI, 22, .inl (fun _ => 0))), ((p2 52), .inl (cI, 22, .inl (fun _ => 0)))]) (fun (r9 : Int32) (u9 : Unit) => r9 = 1) := by
  refine fun sz => k_enter (cc := cX7_has) (maxL := 2) (ret := some (.int)) (Qc := fun A => va_Qi (fun (r9 : Int32) (u9 : Unit) => r9 = 1) (fun u => k_B (dC, dI) vwCl (tyy cI cJ cZ cM) A ((fun (u9 : Unit) => [(p0, .inr (7, oM p2 (upd (upd (upd (upd i7 62 0) 63 0) 64 0) 65 0) j7)), ((p2 49), .inl (cI, 22, .inl (fun _ => 0))), ((p2 50), .inl (cI, 22, .inl (fun _ => 0))), ((p2 51), .inl (cI, 22, .inl (fun _ => 0))), ((p2 52), .inl (cI, 22, .inl (fun _ => 0)))]) u)) A) sz (by decide +kernel) rfl (Nat.le_of_ble_eq_true rfl) (fun p e s m args below meth c A ls H locs B hP hD hS hl => ?_)
  obtain ⟨hx, hb, hml, hown, hts, hr, hlk, hnm, hK, hA, hN, hC⟩ := id B
  have hown : s.vm.findClass RX7 = some m.cls := hown
  have hl : lv_has ls 2 [(0, .ref p0), (1, .int p1)] := hl
  have w_0 : (Cond.fieldLink RX7 195 "WishSeaModel" "seeds" "J").before args s = true := hts _ (List.mem_of_getElem? (i := 12) rfl)
  have hinX7 : ∀ w ∈ u_ws RX7 TX7 92, w ∈ wsX7_has := fun _ h => List.mem_cons_of_mem _ (List.mem_append_right _ h)
  rcases (show p1.toInt = 13 by omega) with c_1
  obtain rfl : p1 = 13 := k_eqL (by decide +kernel) c_1
  refine lv_aload_n hx hb dX7_has_0 rfl (lv_at hl 0 rfl) ?_
  refine lv_iconst (v := 0) hx hb dX7_has_1 (by decide +kernel) ?_
  refine k_cv (wc := [(p0, .inr (7, oM p2 i7 j7)), ((p2 49), .inl (cI, 22, .inl (fun _ => 0))), ((p2 50), .inl (cI, 22, .inl (fun _ => 0))), ((p2 51), .inl (cI, 22, .inl (fun _ => 0))), ((p2 52), .inl (cI, 22, .inl (fun _ => 0)))]) (wr := []) (fun hPc hDc hFc => va_runV (As := [.int 0]) (rest := []) ⟨hx, hb, hml, hown, hts⟩ (c_X7_asksLayer_v0 l dC dI cI cJ cZ cM p0 p2 H.size) (cwV 1 hts gX7_has_X7_asksLayer rfl rfl rfl (by decide +kernel) ⟨(Nat.le_of_ble_eq_true rfl), (Nat.le_of_ble_eq_true rfl)⟩) (k_pV hPc hDc hK hN hC hS hFc hP (q0 := 0) (ci := 7) rfl rfl) rfl rfl hl.1 rfl (lv_room (Nat.le_of_ble_eq_true rfl)) dX7_has_2 ⟨(Nat.le_of_ble_eq_true rfl), (Nat.le_of_ble_eq_true rfl)⟩) hP hD hS hA [0, 1, 2, 3, 4] [] rfl rfl rfl rfl (by decide) (fun _ => rfl) 0 0 rfl rfl (fun u_3 H locs hw hP hD hS => ?_)
  have hP : va_P (dC, dI) vwCl [(p0, .inr (7, oM p2 (upd (upd (upd (upd i7 62 0) 63 0) 64 0) 65 0) j7)), ((p2 49), .inl (cI, 22, .inl (fun _ => 0))), ((p2 50), .inl (cI, 22, .inl (fun _ => 0))), ((p2 51), .inl (cI, 22, .inl (fun _ => 0))), ((p2 52), .inl (cI, 22, .inl (fun _ => 0)))] H := hP
  have hD : va_D A [(p0, .inr (7, oM p2 (upd (upd (upd (upd i7 62 0) 63 0) 64 0) 65 0) j7)), ((p2 49), .inl (cI, 22, .inl (fun _ => 0))), ((p2 50), .inl (cI, 22, .inl (fun _ => 0))), ((p2 51), .inl (cI, 22, .inl (fun _ => 0))), ((p2 52), .inl (cI, 22, .inl (fun _ => 0)))] := hD
  refine lv_iload_n hx hb dX7_has_5 rfl (lv_at hl 1 rfl) ?_
  refine lv_tableIn (off := 179) (tgt := 185) hx hb dX7_has_6 (by decide +kernel) (by decide +kernel) (by decide +kernel) (by decide +kernel) ?_
  refine lv_aload_n hx hb dX7_has_185 rfl (lv_at hl 0 rfl) ?_
  refine k_get (D := (dC, dI)) (ci := 7) (v := .long 1) (C := RX7) (T := TX7) (N := 92) hx hb hts hinX7 hown hK hP 0 rfl rfl 60 (by decide) w_0 rfl rfl dX7_has_186 ?_
  refine lv_l2i (v := 1) hx hb dX7_has_189 (by decide +kernel) ?_
  exact k_ri B hP hD hS dX7_has_190 () [0, 1, 2, 3, 4] rfl rfl rfl (Nat.le_of_ble_eq_true rfl) (Nat.le_of_ble_eq_true rfl) rfl
set_option maxHeartbeats 4000000 in
set_option maxRecDepth 100000 in
theorem c_X7_has_v14 (l : Launch) (dC : Nat → ClassId) (dI : Nat → Nat → Nat) (cI cJ cZ cM : ClassId) (p0 : Nat) (p1 : Int32) (p2 : Nat → Nat)   : k_Mi l yX7_has wsX7_has ({ frames := 3, cells := 0, slots := 0, locals := 85 }) (dC, dI) vwCl (tyy cI cJ cZ cM) [(p0, .inr (7, oM p2 i7 j7)), ((p2 49), .inl (cI, 22, .inl (fun _ => 0))), ((p2 50), .inl (cI, 22, .inl (fun _ => 0))), ((p2 51), .inl (cI, 22, .inl (fun _ => 0))), ((p2 52), .inl (cI, 22, .inl (fun _ => 0))), ((p2 14), .inl (cI, 2, .inl (fun _ => 0))), ((p2 18), .inl (cI, 2, .inl (fun _ => 0))), ((p2 26), .inl (cI, 2, .inl (upd (fun _ => 0) 0 (-1)))), ((p2 28), .inl (cI, 2, .inl (upd (fun _ => 0) 0 (-1)))), ((p2 30), .inl (cI, 2, .inl (upd (fun _ => 0) 0 100))), ((p2 31), .inl (cI, 2, .inl (fun _ => 0))), ((p2 53), .inl (cI, 22, .inl (fun _ => 0)))] [.ref p0, .int p1] 0 0 (fun (u9 : (Nat × (Nat → Nat))) => match u9.1 with | 0 => [(p0, .inr (7, oM p2 (upd (upd (upd (upd i7 62 0) 63 0) 64 0) 65 0) j7)), ((p2 49), .inl (cI, 22, .inl (fun _ => 0))), ((p2 50), .inl (cI, 22, .inl (fun _ => 0))), ((p2 51), .inl (cI, 22, .inl (fun _ => 0))), ((p2 52), .inl (cI, 22, .inl (fun _ => 0))), ((p2 14), .inl (cI, 2, .inl (fun _ => 0))), ((p2 18), .inl (cI, 2, .inl (fun _ => 0))), ((p2 26), .inl (cI, 2, .inl (upd (fun _ => 0) 0 (-1)))), ((p2 28), .inl (cI, 2, .inl (upd (fun _ => 0) 0 (-1)))), ((p2 30), .inl (cI, 2, .inl (upd (fun _ => 0) 0 100))), ((p2 31), .inl (cI, 2, .inl (fun _ => 0))), ((p2 53), .inl (cI, 22, .inl (fun _ => 0)))] | 1 => [(p0, .inr (7, oM p2 (upd (upd (upd (upd i7 62 0) 63 0) 64 0) 65 0) j7)), ((p2 49), .inl (cI, 22, .inl (fun _ => 0))), ((p2 50), .inl (cI, 22, .inl (fun _ => 0))), ((p2 51), .inl (cI, 22, .inl (fun _ => 0))), ((p2 52), .inl (cI, 22, .inl (fun _ => 0))), ((p2 14), .inl (cI, 2, .inl (fun _ => 0))), ((p2 18), .inl (cI, 2, .inl (fun _ => 0))), ((p2 26), .inl (cI, 2, .inl (upd (fun _ => 0) 0 (-1)))), ((p2 28), .inl (cI, 2, .inl (upd (fun _ => 0) 0 (-1)))), ((p2 30), .inl (cI, 2, .inl (upd (fun _ => 0) 0 100))), ((p2 31), .inl (cI, 2, .inl (fun _ => 0))), ((p2 53), .inl (cI, 22, .inl (fun _ => 0)))] | 2 => [(p0, .inr (7, oM p2 (upd (upd (upd (upd i7 62 0) 63 0) 64 0) 65 0) j7)), ((p2 49), .inl (cI, 22, .inl (fun _ => 0))), ((p2 50), .inl (cI, 22, .inl (fun _ => 0))), ((p2 51), .inl (cI, 22, .inl (fun _ => 0))), ((p2 52), .inl (cI, 22, .inl (fun _ => 0))), ((p2 14), .inl (cI, 2, .inl (fun _ => 0))), ((p2 18), .inl (cI, 2, .inl (fun _ => 0))), ((p2 26), .inl (cI, 2, .inl (upd (fun _ => 0) 0 (-1)))), ((p2 28), .inl (cI, 2, .inl (upd (fun _ => 0) 0 (-1)))), ((p2 30), .inl (cI, 2, .inl (upd (fun _ => 0) 0 100))), ((p2 31), .inl (cI, 2, .inl (fun _ => 0))), ((p2 53), .inl (cI, 22, .inl (fun _ => 0)))] | 3 => [(p0, .inr (7, oM p2 (upd (upd (upd (upd i7 62 0) 63 0) 64 0) 65 0) j7)), ((p2 49), .inl (cI, 22, .inl (fun _ => 0))), ((p2 50), .inl (cI, 22, .inl (fun _ => 0))), ((p2 51), .inl (cI, 22, .inl (fun _ => 0))), ((p2 52), .inl (cI, 22, .inl (fun _ => 0))), ((p2 14), .inl (cI, 2, .inl (fun _ => 0))), ((p2 18), .inl (cI, 2, .inl (fun _ => 0))), ((p2 26), .inl (cI, 2, .inl (upd (fun _ => 0) 0 (-1)))), ((p2 28), .inl (cI, 2, .inl (upd (fun _ => 0) 0 (-1)))), ((p2 30), .inl (cI, 2, .inl (upd (fun _ => 0) 0 100))), ((p2 31), .inl (cI, 2, .inl (fun _ => 0))), ((p2 53), .inl (cI, 22, .inl (fun _ => 0)))] | 4 => [(p0, .inr (7, oM p2 (upd (upd (upd (upd i7 62 0) 63 0) 64 0) 65 0) j7)), ((p2 49), .inl (cI, 22, .inl (fun _ => 0))), ((p2 50), .inl (cI, 22, .inl (fun _ => 0))), ((p2 51), .inl (cI, 22, .inl (fun _ => 0))), ((p2 52), .inl (cI, 22, .inl (fun _ => 0))), ((p2 14), .inl (cI, 2, .inl (fun _ => 0))), ((p2 18), .inl (cI, 2, .inl (fun _ => 0))), ((p2 26), .inl (cI, 2, .inl (upd (fun _ => 0) 0 (-1)))), ((p2 28), .inl (cI, 2, .inl (upd (fun _ => 0) 0 (-1)))), ((p2 30), .inl (cI, 2, .inl (upd (fun _ => 0) 0 100))), ((p2 31), .inl (cI, 2, .inl (fun _ => 0))), ((p2 53), .inl (cI, 22, .inl (fun _ => 0)))] | 5 => [(p0, .inr (7, oM p2 (upd (upd (upd (upd i7 62 0) 63 0) 64 0) 65 0) j7)), ((p2 49), .inl (cI, 22, .inl (fun _ => 0))), ((p2 50), .inl (cI, 22, .inl (fun _ => 0))), ((p2 51), .inl (cI, 22, .inl (fun _ => 0))), ((p2 52), .inl (cI, 22, .inl (fun _ => 0))), ((p2 14), .inl (cI, 2, .inl (fun _ => 0))), ((p2 18), .inl (cI, 2, .inl (fun _ => 0))), ((p2 26), .inl (cI, 2, .inl (upd (fun _ => 0) 0 (-1)))), ((p2 28), .inl (cI, 2, .inl (upd (fun _ => 0) 0 (-1)))), ((p2 30), .inl (cI, 2, .inl (upd (fun _ => 0) 0 100))), ((p2 31), .inl (cI, 2, .inl (fun _ => 0))), ((p2 53), .inl (cI, 22, .inl (fun _ => 0)))] | 6 => [(p0, .inr (7, oM p2 (upd (upd (upd (upd i7 62 0) 63 0) 64 0) 65 0) j7)), ((p2 49), .inl (cI, 22, .inl (fun _ => 0))), ((p2 50), .inl (cI, 22, .inl (fun _ => 0))), ((p2 51), .inl (cI, 22, .inl (fun _ => 0))), ((p2 52), .inl (cI, 22, .inl (fun _ => 0))), ((p2 14), .inl (cI, 2, .inl (fun _ => 0))), ((p2 18), .inl (cI, 2, .inl (fun _ => 0))), ((p2 26), .inl (cI, 2, .inl (upd (fun _ => 0) 0 (-1)))), ((p2 28), .inl (cI, 2, .inl (upd (fun _ => 0) 0 (-1)))), ((p2 30), .inl (cI, 2, .inl (upd (fun _ => 0) 0 100))), ((p2 31), .inl (cI, 2, .inl (fun _ => 0))), ((p2 53), .inl (cI, 22, .inl (fun _ => 0)))] | 7 => [(p0, .inr (7, oM p2 (upd (upd (upd (upd (upd i7 62 0) 63 0) 64 0) 65 0) 66 (-1)) j7)), ((p2 49), .inl (cI, 22, .inl (fun _ => 0))), ((p2 50), .inl (cI, 22, .inl (fun _ => 0))), ((p2 51), .inl (cI, 22, .inl (fun _ => 0))), ((p2 52), .inl (cI, 22, .inl (fun _ => 0))), ((p2 14), .inl (cI, 2, .inl (fun _ => 0))), ((p2 18), .inl (cI, 2, .inl (fun _ => 0))), ((p2 26), .inl (cI, 2, .inl (upd (fun _ => 0) 0 (-1)))), ((p2 28), .inl (cI, 2, .inl (upd (fun _ => 0) 0 (-1)))), ((p2 30), .inl (cI, 2, .inl (upd (fun _ => 0) 0 100))), ((p2 31), .inl (cI, 2, .inl (fun _ => 0))), ((p2 53), .inl (cI, 22, .inl (fun _ => 0)))] | 8 => [(p0, .inr (7, oM p2 (upd (upd (upd (upd (upd i7 62 0) 63 0) 64 0) 65 0) 66 (-1)) j7)), ((p2 49), .inl (cI, 22, .inl (fun _ => 0))), ((p2 50), .inl (cI, 22, .inl (fun _ => 0))), ((p2 51), .inl (cI, 22, .inl (fun _ => 0))), ((p2 52), .inl (cI, 22, .inl (fun _ => 0))), ((p2 14), .inl (cI, 2, .inl (fun _ => 0))), ((p2 18), .inl (cI, 2, .inl (fun _ => 0))), ((p2 26), .inl (cI, 2, .inl (upd (fun _ => 0) 0 (-1)))), ((p2 28), .inl (cI, 2, .inl (upd (fun _ => 0) 0 (-1)))), ((p2 30), .inl (cI, 2, .inl (upd (fun _ => 0) 0 100))), ((p2 31), .inl (cI, 2, .inl (fun _ => 0))), ((p2 53), .inl (cI, 22, .inl (fun _ => 0)))] | 9 => [(p0, .inr (7, oM p2 (upd (upd (upd (upd i7 62 0) 63 0) 64 0) 65 0) j7)), ((p2 49), .inl (cI, 22, .inl (fun _ => 0))), ((p2 50), .inl (cI, 22, .inl (fun _ => 0))), ((p2 51), .inl (cI, 22, .inl (fun _ => 0))), ((p2 52), .inl (cI, 22, .inl (fun _ => 0))), ((p2 14), .inl (cI, 2, .inl (fun _ => 0))), ((p2 18), .inl (cI, 2, .inl (fun _ => 0))), ((p2 26), .inl (cI, 2, .inl (upd (fun _ => 0) 0 (-1)))), ((p2 28), .inl (cI, 2, .inl (upd (fun _ => 0) 0 (-1)))), ((p2 30), .inl (cI, 2, .inl (upd (fun _ => 0) 0 100))), ((p2 31), .inl (cI, 2, .inl (fun _ => 0))), ((p2 53), .inl (cI, 22, .inl (fun _ => 0)))] | 10 => [(p0, .inr (7, oM p2 (upd (upd (upd (upd i7 62 0) 63 0) 64 0) 65 0) j7)), ((p2 49), .inl (cI, 22, .inl (fun _ => 0))), ((p2 50), .inl (cI, 22, .inl (fun _ => 0))), ((p2 51), .inl (cI, 22, .inl (fun _ => 0))), ((p2 52), .inl (cI, 22, .inl (fun _ => 0))), ((p2 14), .inl (cI, 2, .inl (fun _ => 0))), ((p2 18), .inl (cI, 2, .inl (fun _ => 0))), ((p2 26), .inl (cI, 2, .inl (upd (fun _ => 0) 0 (-1)))), ((p2 28), .inl (cI, 2, .inl (upd (fun _ => 0) 0 (-1)))), ((p2 30), .inl (cI, 2, .inl (upd (fun _ => 0) 0 100))), ((p2 31), .inl (cI, 2, .inl (fun _ => 0))), ((p2 53), .inl (cI, 22, .inl (fun _ => 0)))] | 11 => [(p0, .inr (7, oM p2 (upd (upd (upd (upd i7 62 0) 63 0) 64 0) 65 0) j7)), ((p2 49), .inl (cI, 22, .inl (fun _ => 0))), ((p2 50), .inl (cI, 22, .inl (fun _ => 0))), ((p2 51), .inl (cI, 22, .inl (fun _ => 0))), ((p2 52), .inl (cI, 22, .inl (fun _ => 0))), ((p2 14), .inl (cI, 2, .inl (fun _ => 0))), ((p2 18), .inl (cI, 2, .inl (fun _ => 0))), ((p2 26), .inl (cI, 2, .inl (upd (fun _ => 0) 0 (-1)))), ((p2 28), .inl (cI, 2, .inl (upd (fun _ => 0) 0 (-1)))), ((p2 30), .inl (cI, 2, .inl (upd (fun _ => 0) 0 100))), ((p2 31), .inl (cI, 2, .inl (fun _ => 0))), ((p2 53), .inl (cI, 22, .inl (fun _ => 0)))] | 12 => [(p0, .inr (7, oM p2 (upd (upd (upd (upd i7 62 0) 63 0) 64 0) 65 0) j7)), ((p2 49), .inl (cI, 22, .inl (fun _ => 0))), ((p2 50), .inl (cI, 22, .inl (fun _ => 0))), ((p2 51), .inl (cI, 22, .inl (fun _ => 0))), ((p2 52), .inl (cI, 22, .inl (fun _ => 0))), ((p2 14), .inl (cI, 2, .inl (fun _ => 0))), ((p2 18), .inl (cI, 2, .inl (fun _ => 0))), ((p2 26), .inl (cI, 2, .inl (upd (fun _ => 0) 0 (-1)))), ((p2 28), .inl (cI, 2, .inl (upd (fun _ => 0) 0 (-1)))), ((p2 30), .inl (cI, 2, .inl (upd (fun _ => 0) 0 100))), ((p2 31), .inl (cI, 2, .inl (fun _ => 0))), ((p2 53), .inl (cI, 22, .inl (fun _ => 0)))] | 13 => [(p0, .inr (7, oM p2 (upd (upd (upd (upd i7 62 0) 63 0) 64 0) 65 0) j7)), ((p2 49), .inl (cI, 22, .inl (fun _ => 0))), ((p2 50), .inl (cI, 22, .inl (fun _ => 0))), ((p2 51), .inl (cI, 22, .inl (fun _ => 0))), ((p2 52), .inl (cI, 22, .inl (fun _ => 0))), ((p2 14), .inl (cI, 2, .inl (fun _ => 0))), ((p2 18), .inl (cI, 2, .inl (fun _ => 0))), ((p2 26), .inl (cI, 2, .inl (upd (fun _ => 0) 0 (-1)))), ((p2 28), .inl (cI, 2, .inl (upd (fun _ => 0) 0 (-1)))), ((p2 30), .inl (cI, 2, .inl (upd (fun _ => 0) 0 100))), ((p2 31), .inl (cI, 2, .inl (fun _ => 0))), ((p2 53), .inl (cI, 22, .inl (fun _ => 0)))] | 14 => [(p0, .inr (7, oM p2 (upd (upd (upd (upd i7 62 0) 63 0) 64 0) 65 0) j7)), ((p2 49), .inl (cI, 22, .inl (fun _ => 0))), ((p2 50), .inl (cI, 22, .inl (fun _ => 0))), ((p2 51), .inl (cI, 22, .inl (fun _ => 0))), ((p2 52), .inl (cI, 22, .inl (fun _ => 0))), ((p2 14), .inl (cI, 2, .inl (fun _ => 0))), ((p2 18), .inl (cI, 2, .inl (fun _ => 0))), ((p2 26), .inl (cI, 2, .inl (upd (fun _ => 0) 0 (-1)))), ((p2 28), .inl (cI, 2, .inl (upd (fun _ => 0) 0 (-1)))), ((p2 30), .inl (cI, 2, .inl (upd (fun _ => 0) 0 100))), ((p2 31), .inl (cI, 2, .inl (fun _ => 0))), ((p2 53), .inl (cI, 22, .inl (fun _ => 0)))] | _ => []) (fun (r9 : Int32) (u9 : (Nat × (Nat → Nat))) => match u9.1 with | 0 => (p1.toInt = 0) ∧ r9 = 0 | 1 => (p1.toInt = 1) ∧ r9 = 0 | 2 => (p1.toInt = 2) ∧ r9 = 0 | 3 => (p1.toInt = 3) ∧ r9 = 0 | 4 => (p1.toInt = 4) ∧ r9 = 0 | 5 => (p1.toInt = 5) ∧ r9 = 0 | 6 => (p1.toInt = 6) ∧ r9 = 0 | 7 => (p1.toInt = 7) ∧ r9 = 99 | 8 => (p1.toInt = 8) ∧ r9 = 0 | 9 => (p1.toInt = 9) ∧ r9 = 100 | 10 => (p1.toInt = 10) ∧ r9 = 0 | 11 => (p1.toInt = 11) ∧ r9 = 0 | 12 => (p1.toInt = 12) ∧ r9 = 0 | 13 => (p1.toInt = 13) ∧ r9 = 1 | 14 => (p1.toInt < 0 ∨ 13 < p1.toInt) ∧ r9 = (-1) | _ => False) := by
  refine fun sz => k_enter (cc := cX7_has) (maxL := 2) (ret := some (.int)) (Qc := fun A => va_Qi (fun (r9 : Int32) (u9 : (Nat × (Nat → Nat))) => match u9.1 with | 0 => (p1.toInt = 0) ∧ r9 = 0 | 1 => (p1.toInt = 1) ∧ r9 = 0 | 2 => (p1.toInt = 2) ∧ r9 = 0 | 3 => (p1.toInt = 3) ∧ r9 = 0 | 4 => (p1.toInt = 4) ∧ r9 = 0 | 5 => (p1.toInt = 5) ∧ r9 = 0 | 6 => (p1.toInt = 6) ∧ r9 = 0 | 7 => (p1.toInt = 7) ∧ r9 = 99 | 8 => (p1.toInt = 8) ∧ r9 = 0 | 9 => (p1.toInt = 9) ∧ r9 = 100 | 10 => (p1.toInt = 10) ∧ r9 = 0 | 11 => (p1.toInt = 11) ∧ r9 = 0 | 12 => (p1.toInt = 12) ∧ r9 = 0 | 13 => (p1.toInt = 13) ∧ r9 = 1 | 14 => (p1.toInt < 0 ∨ 13 < p1.toInt) ∧ r9 = (-1) | _ => False) (fun u => k_B (dC, dI) vwCl (tyy cI cJ cZ cM) A ((fun (u9 : (Nat × (Nat → Nat))) => match u9.1 with | 0 => [(p0, .inr (7, oM p2 (upd (upd (upd (upd i7 62 0) 63 0) 64 0) 65 0) j7)), ((p2 49), .inl (cI, 22, .inl (fun _ => 0))), ((p2 50), .inl (cI, 22, .inl (fun _ => 0))), ((p2 51), .inl (cI, 22, .inl (fun _ => 0))), ((p2 52), .inl (cI, 22, .inl (fun _ => 0))), ((p2 14), .inl (cI, 2, .inl (fun _ => 0))), ((p2 18), .inl (cI, 2, .inl (fun _ => 0))), ((p2 26), .inl (cI, 2, .inl (upd (fun _ => 0) 0 (-1)))), ((p2 28), .inl (cI, 2, .inl (upd (fun _ => 0) 0 (-1)))), ((p2 30), .inl (cI, 2, .inl (upd (fun _ => 0) 0 100))), ((p2 31), .inl (cI, 2, .inl (fun _ => 0))), ((p2 53), .inl (cI, 22, .inl (fun _ => 0)))] | 1 => [(p0, .inr (7, oM p2 (upd (upd (upd (upd i7 62 0) 63 0) 64 0) 65 0) j7)), ((p2 49), .inl (cI, 22, .inl (fun _ => 0))), ((p2 50), .inl (cI, 22, .inl (fun _ => 0))), ((p2 51), .inl (cI, 22, .inl (fun _ => 0))), ((p2 52), .inl (cI, 22, .inl (fun _ => 0))), ((p2 14), .inl (cI, 2, .inl (fun _ => 0))), ((p2 18), .inl (cI, 2, .inl (fun _ => 0))), ((p2 26), .inl (cI, 2, .inl (upd (fun _ => 0) 0 (-1)))), ((p2 28), .inl (cI, 2, .inl (upd (fun _ => 0) 0 (-1)))), ((p2 30), .inl (cI, 2, .inl (upd (fun _ => 0) 0 100))), ((p2 31), .inl (cI, 2, .inl (fun _ => 0))), ((p2 53), .inl (cI, 22, .inl (fun _ => 0)))] | 2 => [(p0, .inr (7, oM p2 (upd (upd (upd (upd i7 62 0) 63 0) 64 0) 65 0) j7)), ((p2 49), .inl (cI, 22, .inl (fun _ => 0))), ((p2 50), .inl (cI, 22, .inl (fun _ => 0))), ((p2 51), .inl (cI, 22, .inl (fun _ => 0))), ((p2 52), .inl (cI, 22, .inl (fun _ => 0))), ((p2 14), .inl (cI, 2, .inl (fun _ => 0))), ((p2 18), .inl (cI, 2, .inl (fun _ => 0))), ((p2 26), .inl (cI, 2, .inl (upd (fun _ => 0) 0 (-1)))), ((p2 28), .inl (cI, 2, .inl (upd (fun _ => 0) 0 (-1)))), ((p2 30), .inl (cI, 2, .inl (upd (fun _ => 0) 0 100))), ((p2 31), .inl (cI, 2, .inl (fun _ => 0))), ((p2 53), .inl (cI, 22, .inl (fun _ => 0)))] | 3 => [(p0, .inr (7, oM p2 (upd (upd (upd (upd i7 62 0) 63 0) 64 0) 65 0) j7)), ((p2 49), .inl (cI, 22, .inl (fun _ => 0))), ((p2 50), .inl (cI, 22, .inl (fun _ => 0))), ((p2 51), .inl (cI, 22, .inl (fun _ => 0))), ((p2 52), .inl (cI, 22, .inl (fun _ => 0))), ((p2 14), .inl (cI, 2, .inl (fun _ => 0))), ((p2 18), .inl (cI, 2, .inl (fun _ => 0))), ((p2 26), .inl (cI, 2, .inl (upd (fun _ => 0) 0 (-1)))), ((p2 28), .inl (cI, 2, .inl (upd (fun _ => 0) 0 (-1)))), ((p2 30), .inl (cI, 2, .inl (upd (fun _ => 0) 0 100))), ((p2 31), .inl (cI, 2, .inl (fun _ => 0))), ((p2 53), .inl (cI, 22, .inl (fun _ => 0)))] | 4 => [(p0, .inr (7, oM p2 (upd (upd (upd (upd i7 62 0) 63 0) 64 0) 65 0) j7)), ((p2 49), .inl (cI, 22, .inl (fun _ => 0))), ((p2 50), .inl (cI, 22, .inl (fun _ => 0))), ((p2 51), .inl (cI, 22, .inl (fun _ => 0))), ((p2 52), .inl (cI, 22, .inl (fun _ => 0))), ((p2 14), .inl (cI, 2, .inl (fun _ => 0))), ((p2 18), .inl (cI, 2, .inl (fun _ => 0))), ((p2 26), .inl (cI, 2, .inl (upd (fun _ => 0) 0 (-1)))), ((p2 28), .inl (cI, 2, .inl (upd (fun _ => 0) 0 (-1)))), ((p2 30), .inl (cI, 2, .inl (upd (fun _ => 0) 0 100))), ((p2 31), .inl (cI, 2, .inl (fun _ => 0))), ((p2 53), .inl (cI, 22, .inl (fun _ => 0)))] | 5 => [(p0, .inr (7, oM p2 (upd (upd (upd (upd i7 62 0) 63 0) 64 0) 65 0) j7)), ((p2 49), .inl (cI, 22, .inl (fun _ => 0))), ((p2 50), .inl (cI, 22, .inl (fun _ => 0))), ((p2 51), .inl (cI, 22, .inl (fun _ => 0))), ((p2 52), .inl (cI, 22, .inl (fun _ => 0))), ((p2 14), .inl (cI, 2, .inl (fun _ => 0))), ((p2 18), .inl (cI, 2, .inl (fun _ => 0))), ((p2 26), .inl (cI, 2, .inl (upd (fun _ => 0) 0 (-1)))), ((p2 28), .inl (cI, 2, .inl (upd (fun _ => 0) 0 (-1)))), ((p2 30), .inl (cI, 2, .inl (upd (fun _ => 0) 0 100))), ((p2 31), .inl (cI, 2, .inl (fun _ => 0))), ((p2 53), .inl (cI, 22, .inl (fun _ => 0)))] | 6 => [(p0, .inr (7, oM p2 (upd (upd (upd (upd i7 62 0) 63 0) 64 0) 65 0) j7)), ((p2 49), .inl (cI, 22, .inl (fun _ => 0))), ((p2 50), .inl (cI, 22, .inl (fun _ => 0))), ((p2 51), .inl (cI, 22, .inl (fun _ => 0))), ((p2 52), .inl (cI, 22, .inl (fun _ => 0))), ((p2 14), .inl (cI, 2, .inl (fun _ => 0))), ((p2 18), .inl (cI, 2, .inl (fun _ => 0))), ((p2 26), .inl (cI, 2, .inl (upd (fun _ => 0) 0 (-1)))), ((p2 28), .inl (cI, 2, .inl (upd (fun _ => 0) 0 (-1)))), ((p2 30), .inl (cI, 2, .inl (upd (fun _ => 0) 0 100))), ((p2 31), .inl (cI, 2, .inl (fun _ => 0))), ((p2 53), .inl (cI, 22, .inl (fun _ => 0)))] | 7 => [(p0, .inr (7, oM p2 (upd (upd (upd (upd (upd i7 62 0) 63 0) 64 0) 65 0) 66 (-1)) j7)), ((p2 49), .inl (cI, 22, .inl (fun _ => 0))), ((p2 50), .inl (cI, 22, .inl (fun _ => 0))), ((p2 51), .inl (cI, 22, .inl (fun _ => 0))), ((p2 52), .inl (cI, 22, .inl (fun _ => 0))), ((p2 14), .inl (cI, 2, .inl (fun _ => 0))), ((p2 18), .inl (cI, 2, .inl (fun _ => 0))), ((p2 26), .inl (cI, 2, .inl (upd (fun _ => 0) 0 (-1)))), ((p2 28), .inl (cI, 2, .inl (upd (fun _ => 0) 0 (-1)))), ((p2 30), .inl (cI, 2, .inl (upd (fun _ => 0) 0 100))), ((p2 31), .inl (cI, 2, .inl (fun _ => 0))), ((p2 53), .inl (cI, 22, .inl (fun _ => 0)))] | 8 => [(p0, .inr (7, oM p2 (upd (upd (upd (upd (upd i7 62 0) 63 0) 64 0) 65 0) 66 (-1)) j7)), ((p2 49), .inl (cI, 22, .inl (fun _ => 0))), ((p2 50), .inl (cI, 22, .inl (fun _ => 0))), ((p2 51), .inl (cI, 22, .inl (fun _ => 0))), ((p2 52), .inl (cI, 22, .inl (fun _ => 0))), ((p2 14), .inl (cI, 2, .inl (fun _ => 0))), ((p2 18), .inl (cI, 2, .inl (fun _ => 0))), ((p2 26), .inl (cI, 2, .inl (upd (fun _ => 0) 0 (-1)))), ((p2 28), .inl (cI, 2, .inl (upd (fun _ => 0) 0 (-1)))), ((p2 30), .inl (cI, 2, .inl (upd (fun _ => 0) 0 100))), ((p2 31), .inl (cI, 2, .inl (fun _ => 0))), ((p2 53), .inl (cI, 22, .inl (fun _ => 0)))] | 9 => [(p0, .inr (7, oM p2 (upd (upd (upd (upd i7 62 0) 63 0) 64 0) 65 0) j7)), ((p2 49), .inl (cI, 22, .inl (fun _ => 0))), ((p2 50), .inl (cI, 22, .inl (fun _ => 0))), ((p2 51), .inl (cI, 22, .inl (fun _ => 0))), ((p2 52), .inl (cI, 22, .inl (fun _ => 0))), ((p2 14), .inl (cI, 2, .inl (fun _ => 0))), ((p2 18), .inl (cI, 2, .inl (fun _ => 0))), ((p2 26), .inl (cI, 2, .inl (upd (fun _ => 0) 0 (-1)))), ((p2 28), .inl (cI, 2, .inl (upd (fun _ => 0) 0 (-1)))), ((p2 30), .inl (cI, 2, .inl (upd (fun _ => 0) 0 100))), ((p2 31), .inl (cI, 2, .inl (fun _ => 0))), ((p2 53), .inl (cI, 22, .inl (fun _ => 0)))] | 10 => [(p0, .inr (7, oM p2 (upd (upd (upd (upd i7 62 0) 63 0) 64 0) 65 0) j7)), ((p2 49), .inl (cI, 22, .inl (fun _ => 0))), ((p2 50), .inl (cI, 22, .inl (fun _ => 0))), ((p2 51), .inl (cI, 22, .inl (fun _ => 0))), ((p2 52), .inl (cI, 22, .inl (fun _ => 0))), ((p2 14), .inl (cI, 2, .inl (fun _ => 0))), ((p2 18), .inl (cI, 2, .inl (fun _ => 0))), ((p2 26), .inl (cI, 2, .inl (upd (fun _ => 0) 0 (-1)))), ((p2 28), .inl (cI, 2, .inl (upd (fun _ => 0) 0 (-1)))), ((p2 30), .inl (cI, 2, .inl (upd (fun _ => 0) 0 100))), ((p2 31), .inl (cI, 2, .inl (fun _ => 0))), ((p2 53), .inl (cI, 22, .inl (fun _ => 0)))] | 11 => [(p0, .inr (7, oM p2 (upd (upd (upd (upd i7 62 0) 63 0) 64 0) 65 0) j7)), ((p2 49), .inl (cI, 22, .inl (fun _ => 0))), ((p2 50), .inl (cI, 22, .inl (fun _ => 0))), ((p2 51), .inl (cI, 22, .inl (fun _ => 0))), ((p2 52), .inl (cI, 22, .inl (fun _ => 0))), ((p2 14), .inl (cI, 2, .inl (fun _ => 0))), ((p2 18), .inl (cI, 2, .inl (fun _ => 0))), ((p2 26), .inl (cI, 2, .inl (upd (fun _ => 0) 0 (-1)))), ((p2 28), .inl (cI, 2, .inl (upd (fun _ => 0) 0 (-1)))), ((p2 30), .inl (cI, 2, .inl (upd (fun _ => 0) 0 100))), ((p2 31), .inl (cI, 2, .inl (fun _ => 0))), ((p2 53), .inl (cI, 22, .inl (fun _ => 0)))] | 12 => [(p0, .inr (7, oM p2 (upd (upd (upd (upd i7 62 0) 63 0) 64 0) 65 0) j7)), ((p2 49), .inl (cI, 22, .inl (fun _ => 0))), ((p2 50), .inl (cI, 22, .inl (fun _ => 0))), ((p2 51), .inl (cI, 22, .inl (fun _ => 0))), ((p2 52), .inl (cI, 22, .inl (fun _ => 0))), ((p2 14), .inl (cI, 2, .inl (fun _ => 0))), ((p2 18), .inl (cI, 2, .inl (fun _ => 0))), ((p2 26), .inl (cI, 2, .inl (upd (fun _ => 0) 0 (-1)))), ((p2 28), .inl (cI, 2, .inl (upd (fun _ => 0) 0 (-1)))), ((p2 30), .inl (cI, 2, .inl (upd (fun _ => 0) 0 100))), ((p2 31), .inl (cI, 2, .inl (fun _ => 0))), ((p2 53), .inl (cI, 22, .inl (fun _ => 0)))] | 13 => [(p0, .inr (7, oM p2 (upd (upd (upd (upd i7 62 0) 63 0) 64 0) 65 0) j7)), ((p2 49), .inl (cI, 22, .inl (fun _ => 0))), ((p2 50), .inl (cI, 22, .inl (fun _ => 0))), ((p2 51), .inl (cI, 22, .inl (fun _ => 0))), ((p2 52), .inl (cI, 22, .inl (fun _ => 0))), ((p2 14), .inl (cI, 2, .inl (fun _ => 0))), ((p2 18), .inl (cI, 2, .inl (fun _ => 0))), ((p2 26), .inl (cI, 2, .inl (upd (fun _ => 0) 0 (-1)))), ((p2 28), .inl (cI, 2, .inl (upd (fun _ => 0) 0 (-1)))), ((p2 30), .inl (cI, 2, .inl (upd (fun _ => 0) 0 100))), ((p2 31), .inl (cI, 2, .inl (fun _ => 0))), ((p2 53), .inl (cI, 22, .inl (fun _ => 0)))] | 14 => [(p0, .inr (7, oM p2 (upd (upd (upd (upd i7 62 0) 63 0) 64 0) 65 0) j7)), ((p2 49), .inl (cI, 22, .inl (fun _ => 0))), ((p2 50), .inl (cI, 22, .inl (fun _ => 0))), ((p2 51), .inl (cI, 22, .inl (fun _ => 0))), ((p2 52), .inl (cI, 22, .inl (fun _ => 0))), ((p2 14), .inl (cI, 2, .inl (fun _ => 0))), ((p2 18), .inl (cI, 2, .inl (fun _ => 0))), ((p2 26), .inl (cI, 2, .inl (upd (fun _ => 0) 0 (-1)))), ((p2 28), .inl (cI, 2, .inl (upd (fun _ => 0) 0 (-1)))), ((p2 30), .inl (cI, 2, .inl (upd (fun _ => 0) 0 100))), ((p2 31), .inl (cI, 2, .inl (fun _ => 0))), ((p2 53), .inl (cI, 22, .inl (fun _ => 0)))] | _ => []) u)) A) sz (by decide +kernel) rfl (Nat.le_of_ble_eq_true rfl) (fun p e s m args below meth c A ls H locs B hP hD hS hl => ?_)
  obtain ⟨hx, hb, hml, hown, hts, hr, hlk, hnm, hK, hA, hN, hC⟩ := id B
  have hown : s.vm.findClass RX7 = some m.cls := hown
  have hl : lv_has ls 2 [(0, .ref p0), (1, .int p1)] := hl
  have w_0 : (Cond.fieldLink RX7 54 "WishSeaModel" "things" "[I").before args s = true := hts _ (List.mem_of_getElem? (i := 1) rfl)
  have w_1 : (Cond.fieldLink RX7 51 "WishSeaModel" "bank" "I").before args s = true := hts _ (List.mem_of_getElem? (i := 2) rfl)
  have w_2 : (Cond.fieldLink RX7 66 "WishSeaModel" "wishes" "[I").before args s = true := hts _ (List.mem_of_getElem? (i := 3) rfl)
  have w_3 : (Cond.fieldLink RX7 162 "WishSeaModel" "hadOf" "[I").before args s = true := hts _ (List.mem_of_getElem? (i := 4) rfl)
  have w_4 : (Cond.fieldLink RX7 165 "WishSeaModel" "seaOf" "[I").before args s = true := hts _ (List.mem_of_getElem? (i := 5) rfl)
  have w_5 : (Cond.fieldLink RX7 168 "WishSeaModel" "saidOf" "[I").before args s = true := hts _ (List.mem_of_getElem? (i := 6) rfl)
  have w_6 : (Cond.fieldLink RX7 171 "WishSeaModel" "dayOf" "[I").before args s = true := hts _ (List.mem_of_getElem? (i := 7) rfl)
  have w_7 : (Cond.fieldLink RX7 102 "WishSeaModel" "bearing" "[I").before args s = true := hts _ (List.mem_of_getElem? (i := 8) rfl)
  have w_8 : (Cond.fieldLink RX7 105 "WishSeaModel" "calming" "[I").before args s = true := hts _ (List.mem_of_getElem? (i := 9) rfl)
  have w_9 : (Cond.fieldLink RX7 174 "WishSeaModel" "keptMany" "[I").before args s = true := hts _ (List.mem_of_getElem? (i := 10) rfl)
  have w_10 : (Cond.fieldLink RX7 192 "WishSeaModel" "undos" "I").before args s = true := hts _ (List.mem_of_getElem? (i := 11) rfl)
  have w_11 : (Cond.fieldLink RX7 195 "WishSeaModel" "seeds" "J").before args s = true := hts _ (List.mem_of_getElem? (i := 12) rfl)
  have hinX7 : ∀ w ∈ u_ws RX7 TX7 92, w ∈ wsX7_has := fun _ h => List.mem_cons_of_mem _ (List.mem_append_right _ h)
  refine lv_aload_n hx hb dX7_has_0 rfl (lv_at hl 0 rfl) ?_
  refine lv_iconst (v := 0) hx hb dX7_has_1 (by decide +kernel) ?_
  refine k_cv (wc := [(p0, .inr (7, oM p2 i7 j7)), ((p2 49), .inl (cI, 22, .inl (fun _ => 0))), ((p2 50), .inl (cI, 22, .inl (fun _ => 0))), ((p2 51), .inl (cI, 22, .inl (fun _ => 0))), ((p2 52), .inl (cI, 22, .inl (fun _ => 0)))]) (wr := [((p2 14), .inl (cI, 2, .inl (fun _ => 0))), ((p2 18), .inl (cI, 2, .inl (fun _ => 0))), ((p2 26), .inl (cI, 2, .inl (upd (fun _ => 0) 0 (-1)))), ((p2 28), .inl (cI, 2, .inl (upd (fun _ => 0) 0 (-1)))), ((p2 30), .inl (cI, 2, .inl (upd (fun _ => 0) 0 100))), ((p2 31), .inl (cI, 2, .inl (fun _ => 0))), ((p2 53), .inl (cI, 22, .inl (fun _ => 0)))]) (fun hPc hDc hFc => va_runV (As := [.int 0]) (rest := []) ⟨hx, hb, hml, hown, hts⟩ (c_X7_asksLayer_v0 l dC dI cI cJ cZ cM p0 p2 H.size) (cwV 1 hts gX7_has_X7_asksLayer rfl rfl rfl (by decide +kernel) ⟨(Nat.le_of_ble_eq_true rfl), (Nat.le_of_ble_eq_true rfl)⟩) (k_pV hPc hDc hK hN hC hS hFc hP (q0 := 0) (ci := 7) rfl rfl) rfl rfl hl.1 rfl (lv_room (Nat.le_of_ble_eq_true rfl)) dX7_has_2 ⟨(Nat.le_of_ble_eq_true rfl), (Nat.le_of_ble_eq_true rfl)⟩) hP hD hS hA [0, 1, 2, 3, 4] [5, 6, 7, 8, 9, 10, 11] rfl rfl rfl rfl (by decide) (fun _ => rfl) 0 0 rfl rfl (fun u_2 H locs hw hP hD hS => ?_)
  have hP : va_P (dC, dI) vwCl [((p2 14), .inl (cI, 2, .inl (fun _ => 0))), ((p2 18), .inl (cI, 2, .inl (fun _ => 0))), ((p2 26), .inl (cI, 2, .inl (upd (fun _ => 0) 0 (-1)))), ((p2 28), .inl (cI, 2, .inl (upd (fun _ => 0) 0 (-1)))), ((p2 30), .inl (cI, 2, .inl (upd (fun _ => 0) 0 100))), ((p2 31), .inl (cI, 2, .inl (fun _ => 0))), ((p2 53), .inl (cI, 22, .inl (fun _ => 0))), (p0, .inr (7, oM p2 (upd (upd (upd (upd i7 62 0) 63 0) 64 0) 65 0) j7)), ((p2 49), .inl (cI, 22, .inl (fun _ => 0))), ((p2 50), .inl (cI, 22, .inl (fun _ => 0))), ((p2 51), .inl (cI, 22, .inl (fun _ => 0))), ((p2 52), .inl (cI, 22, .inl (fun _ => 0)))] H := hP
  have hD : va_D A [((p2 14), .inl (cI, 2, .inl (fun _ => 0))), ((p2 18), .inl (cI, 2, .inl (fun _ => 0))), ((p2 26), .inl (cI, 2, .inl (upd (fun _ => 0) 0 (-1)))), ((p2 28), .inl (cI, 2, .inl (upd (fun _ => 0) 0 (-1)))), ((p2 30), .inl (cI, 2, .inl (upd (fun _ => 0) 0 100))), ((p2 31), .inl (cI, 2, .inl (fun _ => 0))), ((p2 53), .inl (cI, 22, .inl (fun _ => 0))), (p0, .inr (7, oM p2 (upd (upd (upd (upd i7 62 0) 63 0) 64 0) 65 0) j7)), ((p2 49), .inl (cI, 22, .inl (fun _ => 0))), ((p2 50), .inl (cI, 22, .inl (fun _ => 0))), ((p2 51), .inl (cI, 22, .inl (fun _ => 0))), ((p2 52), .inl (cI, 22, .inl (fun _ => 0)))] := hD
  refine lv_iload_n hx hb dX7_has_5 rfl (lv_at hl 1 rfl) ?_
  rcases k_sw14 p1 with c_3 | c_3 | c_3 | c_3 | c_3 | c_3 | c_3 | c_3 | c_3 | c_3 | c_3 | c_3 | c_3 | c_3 | c_3
  · have c_3 : p1.toInt = 0 := c_3
    refine lv_tableIn (off := 70) (tgt := 76) hx hb dX7_has_6 (by rw [c_3]; decide) (by rw [c_3]; decide) (by rw [c_3]; decide +kernel) (by decide +kernel) ?_
    refine lv_aload_n hx hb dX7_has_76 rfl (lv_at hl 0 rfl) ?_
    refine k_get (D := (dC, dI)) (ci := 7) (v := .ref (p2 14)) (C := RX7) (T := TX7) (N := 92) hx hb hts hinX7 hown hK hP 7 rfl rfl 14 (by decide) w_0 rfl rfl dX7_has_77 ?_
    refine lv_aload_n hx hb dX7_has_80 rfl (lv_at hl 0 rfl) ?_
    refine k_get (D := (dC, dI)) (ci := 7) (v := .int 0) (C := RX7) (T := TX7) (N := 92) hx hb hts hinX7 hown hK hP 7 rfl rfl 13 (by decide) w_1 rfl rfl dX7_has_81 ?_
    refine k_iald (v := 0) hx hb hK hP 0 0 0 rfl rfl rfl (Nat.le_of_ble_eq_true rfl) (Nat.le_of_ble_eq_true rfl) rfl dX7_has_84 ?_
    exact k_ri B hP hD hS dX7_has_85 (0, (fun _ => 0)) [7, 8, 9, 10, 11, 0, 1, 2, 3, 4, 5, 6] rfl rfl rfl (Nat.le_of_ble_eq_true rfl) (Nat.le_of_ble_eq_true rfl) ⟨c_3, rfl⟩
  · have c_3 : p1.toInt = 1 := c_3
    refine lv_tableIn (off := 80) (tgt := 86) hx hb dX7_has_6 (by rw [c_3]; decide) (by rw [c_3]; decide) (by rw [c_3]; decide +kernel) (by decide +kernel) ?_
    refine lv_aload_n hx hb dX7_has_86 rfl (lv_at hl 0 rfl) ?_
    refine k_get (D := (dC, dI)) (ci := 7) (v := .ref (p2 18)) (C := RX7) (T := TX7) (N := 92) hx hb hts hinX7 hown hK hP 7 rfl rfl 18 (by decide) w_2 rfl rfl dX7_has_87 ?_
    refine lv_aload_n hx hb dX7_has_90 rfl (lv_at hl 0 rfl) ?_
    refine k_get (D := (dC, dI)) (ci := 7) (v := .int 0) (C := RX7) (T := TX7) (N := 92) hx hb hts hinX7 hown hK hP 7 rfl rfl 13 (by decide) w_1 rfl rfl dX7_has_91 ?_
    refine k_iald (v := 0) hx hb hK hP 1 0 0 rfl rfl rfl (Nat.le_of_ble_eq_true rfl) (Nat.le_of_ble_eq_true rfl) rfl dX7_has_94 ?_
    exact k_ri B hP hD hS dX7_has_95 (1, (fun _ => 0)) [7, 8, 9, 10, 11, 0, 1, 2, 3, 4, 5, 6] rfl rfl rfl (Nat.le_of_ble_eq_true rfl) (Nat.le_of_ble_eq_true rfl) ⟨c_3, rfl⟩
  · have c_3 : p1.toInt = 2 := c_3
    refine lv_tableIn (off := 90) (tgt := 96) hx hb dX7_has_6 (by rw [c_3]; decide) (by rw [c_3]; decide) (by rw [c_3]; decide +kernel) (by decide +kernel) ?_
    refine lv_aload_n hx hb dX7_has_96 rfl (lv_at hl 0 rfl) ?_
    refine k_get (D := (dC, dI)) (ci := 7) (v := .ref (p2 49)) (C := RX7) (T := TX7) (N := 92) hx hb hts hinX7 hown hK hP 7 rfl rfl 49 (by decide) w_3 rfl rfl dX7_has_97 ?_
    refine lv_iconst (v := 0) hx hb dX7_has_100 (by decide +kernel) ?_
    refine k_iald (v := 0) hx hb hK hP 8 0 0 rfl rfl rfl (Nat.le_of_ble_eq_true rfl) (Nat.le_of_ble_eq_true rfl) rfl dX7_has_101 ?_
    exact k_ri B hP hD hS dX7_has_102 (2, (fun _ => 0)) [7, 8, 9, 10, 11, 0, 1, 2, 3, 4, 5, 6] rfl rfl rfl (Nat.le_of_ble_eq_true rfl) (Nat.le_of_ble_eq_true rfl) ⟨c_3, rfl⟩
  · have c_3 : p1.toInt = 3 := c_3
    refine lv_tableIn (off := 97) (tgt := 103) hx hb dX7_has_6 (by rw [c_3]; decide) (by rw [c_3]; decide) (by rw [c_3]; decide +kernel) (by decide +kernel) ?_
    refine lv_aload_n hx hb dX7_has_103 rfl (lv_at hl 0 rfl) ?_
    refine lv_aload_n hx hb dX7_has_104 rfl (lv_at hl 0 rfl) ?_
    refine k_get (D := (dC, dI)) (ci := 7) (v := .ref (p2 49)) (C := RX7) (T := TX7) (N := 92) hx hb hts hinX7 hown hK hP 7 rfl rfl 49 (by decide) w_3 rfl rfl dX7_has_105 ?_
    refine lv_iconst (v := 0) hx hb dX7_has_108 (by decide +kernel) ?_
    refine k_iald (v := 0) hx hb hK hP 8 0 0 rfl rfl rfl (Nat.le_of_ble_eq_true rfl) (Nat.le_of_ble_eq_true rfl) rfl dX7_has_109 ?_
    refine k_ci (wc := [(p0, .inr (7, oM p2 (upd (upd (upd (upd i7 62 0) 63 0) 64 0) 65 0) j7)), ((p2 14), .inl (cI, 2, .inl (fun _ => 0)))]) (wr := [((p2 18), .inl (cI, 2, .inl (fun _ => 0))), ((p2 26), .inl (cI, 2, .inl (upd (fun _ => 0) 0 (-1)))), ((p2 28), .inl (cI, 2, .inl (upd (fun _ => 0) 0 (-1)))), ((p2 30), .inl (cI, 2, .inl (upd (fun _ => 0) 0 100))), ((p2 31), .inl (cI, 2, .inl (fun _ => 0))), ((p2 53), .inl (cI, 22, .inl (fun _ => 0))), ((p2 49), .inl (cI, 22, .inl (fun _ => 0))), ((p2 50), .inl (cI, 22, .inl (fun _ => 0))), ((p2 51), .inl (cI, 22, .inl (fun _ => 0))), ((p2 52), .inl (cI, 22, .inl (fun _ => 0)))]) (fun hPc hDc hFc => va_runV (As := [.int 0]) (rest := []) ⟨hx, hb, hml, hown, hts⟩ (c_X7_worthOf_v0 l dC dI cI cJ cZ cM p0 p2 H.size) (cwV 1 hts gX7_has_X7_worthOf rfl rfl rfl (by decide +kernel) ⟨(Nat.le_of_ble_eq_true rfl), (Nat.le_of_ble_eq_true rfl)⟩) (k_pV hPc hDc hK hN hC hS hFc hP (q0 := 7) (ci := 7) rfl rfl) rfl rfl hl.1 rfl (lv_room (Nat.le_of_ble_eq_true rfl)) dX7_has_110 ⟨(Nat.le_of_ble_eq_true rfl), (Nat.le_of_ble_eq_true rfl)⟩) hP hD hS hA [7, 0] [1, 2, 3, 4, 5, 6, 8, 9, 10, 11] rfl rfl rfl rfl (by decide) (fun _ => rfl) 0 0 rfl rfl (fun r_4 u_5 H locs hw hP hD hS => ?_)
    obtain rfl : r_4 = 0 := hw
    have hP : va_P (dC, dI) vwCl [((p2 18), .inl (cI, 2, .inl (fun _ => 0))), ((p2 26), .inl (cI, 2, .inl (upd (fun _ => 0) 0 (-1)))), ((p2 28), .inl (cI, 2, .inl (upd (fun _ => 0) 0 (-1)))), ((p2 30), .inl (cI, 2, .inl (upd (fun _ => 0) 0 100))), ((p2 31), .inl (cI, 2, .inl (fun _ => 0))), ((p2 53), .inl (cI, 22, .inl (fun _ => 0))), ((p2 49), .inl (cI, 22, .inl (fun _ => 0))), ((p2 50), .inl (cI, 22, .inl (fun _ => 0))), ((p2 51), .inl (cI, 22, .inl (fun _ => 0))), ((p2 52), .inl (cI, 22, .inl (fun _ => 0))), (p0, .inr (7, oM p2 (upd (upd (upd (upd i7 62 0) 63 0) 64 0) 65 0) j7)), ((p2 14), .inl (cI, 2, .inl (fun _ => 0)))] H := hP
    have hD : va_D A [((p2 18), .inl (cI, 2, .inl (fun _ => 0))), ((p2 26), .inl (cI, 2, .inl (upd (fun _ => 0) 0 (-1)))), ((p2 28), .inl (cI, 2, .inl (upd (fun _ => 0) 0 (-1)))), ((p2 30), .inl (cI, 2, .inl (upd (fun _ => 0) 0 100))), ((p2 31), .inl (cI, 2, .inl (fun _ => 0))), ((p2 53), .inl (cI, 22, .inl (fun _ => 0))), ((p2 49), .inl (cI, 22, .inl (fun _ => 0))), ((p2 50), .inl (cI, 22, .inl (fun _ => 0))), ((p2 51), .inl (cI, 22, .inl (fun _ => 0))), ((p2 52), .inl (cI, 22, .inl (fun _ => 0))), (p0, .inr (7, oM p2 (upd (upd (upd (upd i7 62 0) 63 0) 64 0) 65 0) j7)), ((p2 14), .inl (cI, 2, .inl (fun _ => 0)))] := hD
    exact k_ri B hP hD hS dX7_has_113 (3, (fun _ => 0)) [10, 6, 7, 8, 9, 11, 0, 1, 2, 3, 4, 5] rfl rfl rfl (Nat.le_of_ble_eq_true rfl) (Nat.le_of_ble_eq_true rfl) ⟨c_3, rfl⟩
  · have c_3 : p1.toInt = 4 := c_3
    refine lv_tableIn (off := 108) (tgt := 114) hx hb dX7_has_6 (by rw [c_3]; decide) (by rw [c_3]; decide) (by rw [c_3]; decide +kernel) (by decide +kernel) ?_
    refine lv_aload_n hx hb dX7_has_114 rfl (lv_at hl 0 rfl) ?_
    refine k_get (D := (dC, dI)) (ci := 7) (v := .ref (p2 50)) (C := RX7) (T := TX7) (N := 92) hx hb hts hinX7 hown hK hP 7 rfl rfl 50 (by decide) w_4 rfl rfl dX7_has_115 ?_
    refine lv_iconst (v := 0) hx hb dX7_has_118 (by decide +kernel) ?_
    refine k_iald (v := 0) hx hb hK hP 9 0 0 rfl rfl rfl (Nat.le_of_ble_eq_true rfl) (Nat.le_of_ble_eq_true rfl) rfl dX7_has_119 ?_
    exact k_ri B hP hD hS dX7_has_120 (4, (fun _ => 0)) [7, 8, 9, 10, 11, 0, 1, 2, 3, 4, 5, 6] rfl rfl rfl (Nat.le_of_ble_eq_true rfl) (Nat.le_of_ble_eq_true rfl) ⟨c_3, rfl⟩
  · have c_3 : p1.toInt = 5 := c_3
    refine lv_tableIn (off := 115) (tgt := 121) hx hb dX7_has_6 (by rw [c_3]; decide) (by rw [c_3]; decide) (by rw [c_3]; decide +kernel) (by decide +kernel) ?_
    refine lv_aload_n hx hb dX7_has_121 rfl (lv_at hl 0 rfl) ?_
    refine k_get (D := (dC, dI)) (ci := 7) (v := .ref (p2 51)) (C := RX7) (T := TX7) (N := 92) hx hb hts hinX7 hown hK hP 7 rfl rfl 51 (by decide) w_5 rfl rfl dX7_has_122 ?_
    refine lv_iconst (v := 0) hx hb dX7_has_125 (by decide +kernel) ?_
    refine k_iald (v := 0) hx hb hK hP 10 0 0 rfl rfl rfl (Nat.le_of_ble_eq_true rfl) (Nat.le_of_ble_eq_true rfl) rfl dX7_has_126 ?_
    exact k_ri B hP hD hS dX7_has_127 (5, (fun _ => 0)) [7, 8, 9, 10, 11, 0, 1, 2, 3, 4, 5, 6] rfl rfl rfl (Nat.le_of_ble_eq_true rfl) (Nat.le_of_ble_eq_true rfl) ⟨c_3, rfl⟩
  · have c_3 : p1.toInt = 6 := c_3
    refine lv_tableIn (off := 122) (tgt := 128) hx hb dX7_has_6 (by rw [c_3]; decide) (by rw [c_3]; decide) (by rw [c_3]; decide +kernel) (by decide +kernel) ?_
    refine lv_aload_n hx hb dX7_has_128 rfl (lv_at hl 0 rfl) ?_
    refine k_get (D := (dC, dI)) (ci := 7) (v := .ref (p2 52)) (C := RX7) (T := TX7) (N := 92) hx hb hts hinX7 hown hK hP 7 rfl rfl 52 (by decide) w_6 rfl rfl dX7_has_129 ?_
    refine lv_iconst (v := 0) hx hb dX7_has_132 (by decide +kernel) ?_
    refine k_iald (v := 0) hx hb hK hP 11 0 0 rfl rfl rfl (Nat.le_of_ble_eq_true rfl) (Nat.le_of_ble_eq_true rfl) rfl dX7_has_133 ?_
    exact k_ri B hP hD hS dX7_has_134 (6, (fun _ => 0)) [7, 8, 9, 10, 11, 0, 1, 2, 3, 4, 5, 6] rfl rfl rfl (Nat.le_of_ble_eq_true rfl) (Nat.le_of_ble_eq_true rfl) ⟨c_3, rfl⟩
  · have c_3 : p1.toInt = 7 := c_3
    refine lv_tableIn (off := 129) (tgt := 135) hx hb dX7_has_6 (by rw [c_3]; decide) (by rw [c_3]; decide) (by rw [c_3]; decide +kernel) (by decide +kernel) ?_
    refine lv_aload_n hx hb dX7_has_135 rfl (lv_at hl 0 rfl) ?_
    refine k_ci (wc := [(p0, .inr (7, oM p2 (upd (upd (upd (upd i7 62 0) 63 0) 64 0) 65 0) j7)), ((p2 26), .inl (cI, 2, .inl (upd (fun _ => 0) 0 (-1))))]) (wr := [((p2 14), .inl (cI, 2, .inl (fun _ => 0))), ((p2 18), .inl (cI, 2, .inl (fun _ => 0))), ((p2 28), .inl (cI, 2, .inl (upd (fun _ => 0) 0 (-1)))), ((p2 30), .inl (cI, 2, .inl (upd (fun _ => 0) 0 100))), ((p2 31), .inl (cI, 2, .inl (fun _ => 0))), ((p2 53), .inl (cI, 22, .inl (fun _ => 0))), ((p2 49), .inl (cI, 22, .inl (fun _ => 0))), ((p2 50), .inl (cI, 22, .inl (fun _ => 0))), ((p2 51), .inl (cI, 22, .inl (fun _ => 0))), ((p2 52), .inl (cI, 22, .inl (fun _ => 0)))]) (fun hPc hDc hFc => va_runV (As := []) (rest := []) ⟨hx, hb, hml, hown, hts⟩ (c_X7_roomNow_v0 l dC dI cI cJ cZ cM p0 p2 H.size) (cwV 0 hts gX7_has_X7_roomNow rfl rfl rfl (by decide +kernel) ⟨(Nat.le_of_ble_eq_true rfl), (Nat.le_of_ble_eq_true rfl)⟩) (k_pV hPc hDc hK hN hC hS hFc hP (q0 := 7) (ci := 7) rfl rfl) rfl rfl hl.1 rfl (lv_room (Nat.le_of_ble_eq_true rfl)) dX7_has_136 ⟨(Nat.le_of_ble_eq_true rfl), (Nat.le_of_ble_eq_true rfl)⟩) hP hD hS hA [7, 2] [0, 1, 3, 4, 5, 6, 8, 9, 10, 11] rfl rfl rfl rfl (by decide) (fun _ => rfl) 0 0 rfl rfl (fun r_6 u_7 H locs hw hP hD hS => ?_)
    obtain rfl : r_6 = 99 := hw
    have hP : va_P (dC, dI) vwCl [((p2 14), .inl (cI, 2, .inl (fun _ => 0))), ((p2 18), .inl (cI, 2, .inl (fun _ => 0))), ((p2 28), .inl (cI, 2, .inl (upd (fun _ => 0) 0 (-1)))), ((p2 30), .inl (cI, 2, .inl (upd (fun _ => 0) 0 100))), ((p2 31), .inl (cI, 2, .inl (fun _ => 0))), ((p2 53), .inl (cI, 22, .inl (fun _ => 0))), ((p2 49), .inl (cI, 22, .inl (fun _ => 0))), ((p2 50), .inl (cI, 22, .inl (fun _ => 0))), ((p2 51), .inl (cI, 22, .inl (fun _ => 0))), ((p2 52), .inl (cI, 22, .inl (fun _ => 0))), (p0, .inr (7, oM p2 (upd (upd (upd (upd (upd i7 62 0) 63 0) 64 0) 65 0) 66 (-1)) j7)), ((p2 26), .inl (cI, 2, .inl (upd (fun _ => 0) 0 (-1))))] H := hP
    have hD : va_D A [((p2 14), .inl (cI, 2, .inl (fun _ => 0))), ((p2 18), .inl (cI, 2, .inl (fun _ => 0))), ((p2 28), .inl (cI, 2, .inl (upd (fun _ => 0) 0 (-1)))), ((p2 30), .inl (cI, 2, .inl (upd (fun _ => 0) 0 100))), ((p2 31), .inl (cI, 2, .inl (fun _ => 0))), ((p2 53), .inl (cI, 22, .inl (fun _ => 0))), ((p2 49), .inl (cI, 22, .inl (fun _ => 0))), ((p2 50), .inl (cI, 22, .inl (fun _ => 0))), ((p2 51), .inl (cI, 22, .inl (fun _ => 0))), ((p2 52), .inl (cI, 22, .inl (fun _ => 0))), (p0, .inr (7, oM p2 (upd (upd (upd (upd (upd i7 62 0) 63 0) 64 0) 65 0) 66 (-1)) j7)), ((p2 26), .inl (cI, 2, .inl (upd (fun _ => 0) 0 (-1))))] := hD
    exact k_ri B hP hD hS dX7_has_139 (7, (fun _ => 0)) [10, 6, 7, 8, 9, 0, 1, 11, 2, 3, 4, 5] rfl rfl rfl (Nat.le_of_ble_eq_true rfl) (Nat.le_of_ble_eq_true rfl) ⟨c_3, rfl⟩
  · have c_3 : p1.toInt = 8 := c_3
    refine lv_tableIn (off := 134) (tgt := 140) hx hb dX7_has_6 (by rw [c_3]; decide) (by rw [c_3]; decide) (by rw [c_3]; decide +kernel) (by decide +kernel) ?_
    refine lv_aload_n hx hb dX7_has_140 rfl (lv_at hl 0 rfl) ?_
    refine k_ci (wc := [(p0, .inr (7, oM p2 (upd (upd (upd (upd i7 62 0) 63 0) 64 0) 65 0) j7)), ((p2 28), .inl (cI, 2, .inl (upd (fun _ => 0) 0 (-1))))]) (wr := [((p2 14), .inl (cI, 2, .inl (fun _ => 0))), ((p2 18), .inl (cI, 2, .inl (fun _ => 0))), ((p2 26), .inl (cI, 2, .inl (upd (fun _ => 0) 0 (-1)))), ((p2 30), .inl (cI, 2, .inl (upd (fun _ => 0) 0 100))), ((p2 31), .inl (cI, 2, .inl (fun _ => 0))), ((p2 53), .inl (cI, 22, .inl (fun _ => 0))), ((p2 49), .inl (cI, 22, .inl (fun _ => 0))), ((p2 50), .inl (cI, 22, .inl (fun _ => 0))), ((p2 51), .inl (cI, 22, .inl (fun _ => 0))), ((p2 52), .inl (cI, 22, .inl (fun _ => 0)))]) (fun hPc hDc hFc => va_runV (As := []) (rest := []) ⟨hx, hb, hml, hown, hts⟩ (c_X7_isContent_v0 l dC dI cI cJ cZ cM p0 p2 H.size) (cwV 0 hts gX7_has_X7_isContent rfl rfl rfl (by decide +kernel) ⟨(Nat.le_of_ble_eq_true rfl), (Nat.le_of_ble_eq_true rfl)⟩) (k_pV hPc hDc hK hN hC hS hFc hP (q0 := 7) (ci := 7) rfl rfl) rfl rfl hl.1 rfl (lv_room (Nat.le_of_ble_eq_true rfl)) dX7_has_141 ⟨(Nat.le_of_ble_eq_true rfl), (Nat.le_of_ble_eq_true rfl)⟩) hP hD hS hA [7, 3] [0, 1, 2, 4, 5, 6, 8, 9, 10, 11] rfl rfl rfl rfl (by decide) (fun _ => rfl) 0 0 rfl rfl (fun r_8 u_9 H locs hw hP hD hS => ?_)
    obtain rfl : r_8 = 0 := hw
    have hP : va_P (dC, dI) vwCl [((p2 14), .inl (cI, 2, .inl (fun _ => 0))), ((p2 18), .inl (cI, 2, .inl (fun _ => 0))), ((p2 26), .inl (cI, 2, .inl (upd (fun _ => 0) 0 (-1)))), ((p2 30), .inl (cI, 2, .inl (upd (fun _ => 0) 0 100))), ((p2 31), .inl (cI, 2, .inl (fun _ => 0))), ((p2 53), .inl (cI, 22, .inl (fun _ => 0))), ((p2 49), .inl (cI, 22, .inl (fun _ => 0))), ((p2 50), .inl (cI, 22, .inl (fun _ => 0))), ((p2 51), .inl (cI, 22, .inl (fun _ => 0))), ((p2 52), .inl (cI, 22, .inl (fun _ => 0))), (p0, .inr (7, oM p2 (upd (upd (upd (upd (upd i7 62 0) 63 0) 64 0) 65 0) 66 (-1)) j7)), ((p2 28), .inl (cI, 2, .inl (upd (fun _ => 0) 0 (-1))))] H := hP
    have hD : va_D A [((p2 14), .inl (cI, 2, .inl (fun _ => 0))), ((p2 18), .inl (cI, 2, .inl (fun _ => 0))), ((p2 26), .inl (cI, 2, .inl (upd (fun _ => 0) 0 (-1)))), ((p2 30), .inl (cI, 2, .inl (upd (fun _ => 0) 0 100))), ((p2 31), .inl (cI, 2, .inl (fun _ => 0))), ((p2 53), .inl (cI, 22, .inl (fun _ => 0))), ((p2 49), .inl (cI, 22, .inl (fun _ => 0))), ((p2 50), .inl (cI, 22, .inl (fun _ => 0))), ((p2 51), .inl (cI, 22, .inl (fun _ => 0))), ((p2 52), .inl (cI, 22, .inl (fun _ => 0))), (p0, .inr (7, oM p2 (upd (upd (upd (upd (upd i7 62 0) 63 0) 64 0) 65 0) 66 (-1)) j7)), ((p2 28), .inl (cI, 2, .inl (upd (fun _ => 0) 0 (-1))))] := hD
    refine lv_if_eq (tgt := 151) hx hb dX7_has_144 (by decide) (fun _ => ?_) (fun q9 => absurd q9 (by decide +kernel))
    refine lv_iconst (v := 0) hx hb dX7_has_151 (by decide +kernel) ?_
    exact k_ri B hP hD hS dX7_has_152 (8, (fun _ => 0)) [10, 6, 7, 8, 9, 0, 1, 2, 11, 3, 4, 5] rfl rfl rfl (Nat.le_of_ble_eq_true rfl) (Nat.le_of_ble_eq_true rfl) ⟨c_3, rfl⟩
  · have c_3 : p1.toInt = 9 := c_3
    refine lv_tableIn (off := 147) (tgt := 153) hx hb dX7_has_6 (by rw [c_3]; decide) (by rw [c_3]; decide) (by rw [c_3]; decide +kernel) (by decide +kernel) ?_
    refine lv_aload_n hx hb dX7_has_153 rfl (lv_at hl 0 rfl) ?_
    refine k_get (D := (dC, dI)) (ci := 7) (v := .ref (p2 30)) (C := RX7) (T := TX7) (N := 92) hx hb hts hinX7 hown hK hP 7 rfl rfl 30 (by decide) w_7 rfl rfl dX7_has_154 ?_
    refine lv_aload_n hx hb dX7_has_157 rfl (lv_at hl 0 rfl) ?_
    refine k_get (D := (dC, dI)) (ci := 7) (v := .int 0) (C := RX7) (T := TX7) (N := 92) hx hb hts hinX7 hown hK hP 7 rfl rfl 13 (by decide) w_1 rfl rfl dX7_has_158 ?_
    refine k_iald (v := 100) hx hb hK hP 4 0 0 rfl rfl rfl (Nat.le_of_ble_eq_true rfl) (Nat.le_of_ble_eq_true rfl) rfl dX7_has_161 ?_
    exact k_ri B hP hD hS dX7_has_162 (9, (fun _ => 0)) [7, 8, 9, 10, 11, 0, 1, 2, 3, 4, 5, 6] rfl rfl rfl (Nat.le_of_ble_eq_true rfl) (Nat.le_of_ble_eq_true rfl) ⟨c_3, rfl⟩
  · have c_3 : p1.toInt = 10 := c_3
    refine lv_tableIn (off := 157) (tgt := 163) hx hb dX7_has_6 (by rw [c_3]; decide) (by rw [c_3]; decide) (by rw [c_3]; decide +kernel) (by decide +kernel) ?_
    refine lv_aload_n hx hb dX7_has_163 rfl (lv_at hl 0 rfl) ?_
    refine k_get (D := (dC, dI)) (ci := 7) (v := .ref (p2 31)) (C := RX7) (T := TX7) (N := 92) hx hb hts hinX7 hown hK hP 7 rfl rfl 31 (by decide) w_8 rfl rfl dX7_has_164 ?_
    refine lv_aload_n hx hb dX7_has_167 rfl (lv_at hl 0 rfl) ?_
    refine k_get (D := (dC, dI)) (ci := 7) (v := .int 0) (C := RX7) (T := TX7) (N := 92) hx hb hts hinX7 hown hK hP 7 rfl rfl 13 (by decide) w_1 rfl rfl dX7_has_168 ?_
    refine k_iald (v := 0) hx hb hK hP 5 0 0 rfl rfl rfl (Nat.le_of_ble_eq_true rfl) (Nat.le_of_ble_eq_true rfl) rfl dX7_has_171 ?_
    exact k_ri B hP hD hS dX7_has_172 (10, (fun _ => 0)) [7, 8, 9, 10, 11, 0, 1, 2, 3, 4, 5, 6] rfl rfl rfl (Nat.le_of_ble_eq_true rfl) (Nat.le_of_ble_eq_true rfl) ⟨c_3, rfl⟩
  · have c_3 : p1.toInt = 11 := c_3
    refine lv_tableIn (off := 167) (tgt := 173) hx hb dX7_has_6 (by rw [c_3]; decide) (by rw [c_3]; decide) (by rw [c_3]; decide +kernel) (by decide +kernel) ?_
    refine lv_aload_n hx hb dX7_has_173 rfl (lv_at hl 0 rfl) ?_
    refine k_get (D := (dC, dI)) (ci := 7) (v := .ref (p2 53)) (C := RX7) (T := TX7) (N := 92) hx hb hts hinX7 hown hK hP 7 rfl rfl 53 (by decide) w_9 rfl rfl dX7_has_174 ?_
    refine lv_iconst (v := 0) hx hb dX7_has_177 (by decide +kernel) ?_
    refine k_iald (v := 0) hx hb hK hP 6 0 0 rfl rfl rfl (Nat.le_of_ble_eq_true rfl) (Nat.le_of_ble_eq_true rfl) rfl dX7_has_178 ?_
    exact k_ri B hP hD hS dX7_has_179 (11, (fun _ => 0)) [7, 8, 9, 10, 11, 0, 1, 2, 3, 4, 5, 6] rfl rfl rfl (Nat.le_of_ble_eq_true rfl) (Nat.le_of_ble_eq_true rfl) ⟨c_3, rfl⟩
  · have c_3 : p1.toInt = 12 := c_3
    refine lv_tableIn (off := 174) (tgt := 180) hx hb dX7_has_6 (by rw [c_3]; decide) (by rw [c_3]; decide) (by rw [c_3]; decide +kernel) (by decide +kernel) ?_
    refine lv_aload_n hx hb dX7_has_180 rfl (lv_at hl 0 rfl) ?_
    refine k_get (D := (dC, dI)) (ci := 7) (v := .int 0) (C := RX7) (T := TX7) (N := 92) hx hb hts hinX7 hown hK hP 7 rfl rfl 59 (by decide) w_10 rfl rfl dX7_has_181 ?_
    exact k_ri B hP hD hS dX7_has_184 (12, (fun _ => 0)) [7, 8, 9, 10, 11, 0, 1, 2, 3, 4, 5, 6] rfl rfl rfl (Nat.le_of_ble_eq_true rfl) (Nat.le_of_ble_eq_true rfl) ⟨c_3, rfl⟩
  · have c_3 : p1.toInt = 13 := c_3
    refine lv_tableIn (off := 179) (tgt := 185) hx hb dX7_has_6 (by rw [c_3]; decide) (by rw [c_3]; decide) (by rw [c_3]; decide +kernel) (by decide +kernel) ?_
    refine lv_aload_n hx hb dX7_has_185 rfl (lv_at hl 0 rfl) ?_
    refine k_get (D := (dC, dI)) (ci := 7) (v := .long 1) (C := RX7) (T := TX7) (N := 92) hx hb hts hinX7 hown hK hP 7 rfl rfl 60 (by decide) w_11 rfl rfl dX7_has_186 ?_
    refine lv_l2i (v := 1) hx hb dX7_has_189 (by decide +kernel) ?_
    exact k_ri B hP hD hS dX7_has_190 (13, (fun _ => 0)) [7, 8, 9, 10, 11, 0, 1, 2, 3, 4, 5, 6] rfl rfl rfl (Nat.le_of_ble_eq_true rfl) (Nat.le_of_ble_eq_true rfl) ⟨c_3, rfl⟩
  · refine lv_tableOut (tgt := 191) hx hb dX7_has_6 c_3 (by decide +kernel) ?_
    refine lv_iconst (v := (-1)) hx hb dX7_has_191 (by decide +kernel) ?_
    exact k_ri B hP hD hS dX7_has_192 (14, (fun _ => 0)) [7, 8, 9, 10, 11, 0, 1, 2, 3, 4, 5, 6] rfl rfl rfl (Nat.le_of_ble_eq_true rfl) (Nat.le_of_ble_eq_true rfl) ⟨c_3, rfl⟩
set_option maxHeartbeats 4000000 in
set_option maxRecDepth 100000 in
theorem c_X6_isWish_v0 (l : Launch) (dC : Nat → ClassId) (dI : Nat → Nat → Nat) (cI cJ cZ cM : ClassId) (p0 : Nat) (p1 : Int32) (p2 : Nat → Nat)   : k_Mi l yX6_isWish wsX6_isWish ({ frames := 1, cells := 0, slots := 0, locals := 40 }) (dC, dI) vwCl (tyy cI cJ cZ cM) [(p0, .inr (6, [.ref (p2 0), .int 0, .ref (p2 1), .ref (p2 14), .ref (p2 27), .ref (p2 28), .ref (p2 29), .ref (p2 30), .ref (p2 54), .null, .int 1, .int 1, .int 999, .ref (p2 61), .ref (p2 62), .ref (p2 63), .ref (p2 60)])), ((p2 1), .inr (5, [.ref (p2 2), .ref (p2 3), .ref (p2 4), .ref (p2 5), .ref (p2 6), .ref (p2 7), .ref (p2 8), .ref (p2 9), .ref (p2 10), .ref (p2 11), .ref (p2 12), .ref (p2 13), .int 0, .int 0, .int 0, .int 0, .int 0, .int 100, .int 0, .int 0]))] [.ref p0, .int p1] 0 0 (fun (u9 : Unit) => [(p0, .inr (6, [.ref (p2 0), .int 0, .ref (p2 1), .ref (p2 14), .ref (p2 27), .ref (p2 28), .ref (p2 29), .ref (p2 30), .ref (p2 54), .null, .int 1, .int 1, .int 999, .ref (p2 61), .ref (p2 62), .ref (p2 63), .ref (p2 60)])), ((p2 1), .inr (5, [.ref (p2 2), .ref (p2 3), .ref (p2 4), .ref (p2 5), .ref (p2 6), .ref (p2 7), .ref (p2 8), .ref (p2 9), .ref (p2 10), .ref (p2 11), .ref (p2 12), .ref (p2 13), .int 0, .int 0, .int 0, .int 0, .int 0, .int 100, .int 0, .int 0]))]) (fun (r9 : Int32) (u9 : Unit) => r9 = 0) := by
  refine fun sz => k_enter (cc := cX6_isWish) (maxL := 2) (ret := some (.boolean)) (Qc := fun A => va_Qi (fun (r9 : Int32) (u9 : Unit) => r9 = 0) (fun u => k_B (dC, dI) vwCl (tyy cI cJ cZ cM) A ((fun (u9 : Unit) => [(p0, .inr (6, [.ref (p2 0), .int 0, .ref (p2 1), .ref (p2 14), .ref (p2 27), .ref (p2 28), .ref (p2 29), .ref (p2 30), .ref (p2 54), .null, .int 1, .int 1, .int 999, .ref (p2 61), .ref (p2 62), .ref (p2 63), .ref (p2 60)])), ((p2 1), .inr (5, [.ref (p2 2), .ref (p2 3), .ref (p2 4), .ref (p2 5), .ref (p2 6), .ref (p2 7), .ref (p2 8), .ref (p2 9), .ref (p2 10), .ref (p2 11), .ref (p2 12), .ref (p2 13), .int 0, .int 0, .int 0, .int 0, .int 0, .int 100, .int 0, .int 0]))]) u)) A) sz (by decide +kernel) rfl (Nat.le_of_ble_eq_true rfl) (fun p e s m args below meth c A ls H locs B hP hD hS hl => ?_)
  obtain ⟨hx, hb, hml, hown, hts, hr, hlk, hnm, hK, hA, hN, hC⟩ := id B
  have hown : s.vm.findClass RX6 = some m.cls := hown
  have hl : lv_has ls 2 [(0, .ref p0), (1, .int p1)] := hl
  have w_0 : (Cond.fieldLink RX6 16 "WishSea" "live" "LWishSea$Shore;").before args s = true := hts _ (List.mem_of_getElem? (i := 1) rfl)
  have w_1 : (Cond.fieldLink RX6 133 "WishSea$Shore" "wishes" "I").before args s = true := hts _ (List.mem_of_getElem? (i := 2) rfl)
  have hinX6 : ∀ w ∈ u_ws RX6 TX6 17, w ∈ wsX6_isWish := fun _ h => List.mem_cons_of_mem _ (List.mem_append_left _ (List.mem_append_right _ h))
  have hinX5 : ∀ w ∈ u_ws RX5 TX5 20, w ∈ wsX6_isWish := fun _ h => List.mem_cons_of_mem _ (List.mem_append_right _ h)
  refine lv_iload_n hx hb dX6_isWish_0 rfl (lv_at hl 1 rfl) ?_
  refine lv_if_lt (tgt := 19) hx hb dX6_isWish_1 (by decide) (fun c_1 => ?_) (fun c_1 => ?_)
  · have c_1 : p1.toInt < 0 := k_ltT rfl (by decide +kernel) c_1
    refine lv_iconst (v := 0) hx hb dX6_isWish_19 (by decide +kernel) ?_
    exact k_ri B hP hD hS dX6_isWish_20 () [0, 1] rfl rfl rfl (Nat.le_of_ble_eq_true rfl) (Nat.le_of_ble_eq_true rfl) rfl
  · have c_1 : 0 ≤ p1.toInt := k_ltF rfl (by decide +kernel) c_1
    refine lv_iload_n hx hb dX6_isWish_4 rfl (lv_at hl 1 rfl) ?_
    refine lv_aload_n hx hb dX6_isWish_5 rfl (lv_at hl 0 rfl) ?_
    refine k_get (D := (dC, dI)) (ci := 6) (v := .ref (p2 1)) (C := RX6) (T := TX6) (N := 17) hx hb hts hinX6 hown hK hP 0 rfl rfl 2 (by decide) w_0 rfl rfl dX6_isWish_6 ?_
    refine k_get (D := (dC, dI)) (ci := 5) (v := .int 0) (C := RX5) (T := TX5) (N := 20) hx hb hts hinX5 hown hK hP 1 rfl rfl 14 (by decide) w_1 rfl rfl dX6_isWish_9 ?_
    refine lv_icmp_ge (tgt := 19) hx hb dX6_isWish_12 (by decide) (fun c_2 => ?_) (fun c_2 => ?_)
    · have c_2 : 0 ≤ p1.toInt := k_leT (by decide +kernel) rfl c_2
      refine lv_iconst (v := 0) hx hb dX6_isWish_19 (by decide +kernel) ?_
      exact k_ri B hP hD hS dX6_isWish_20 () [0, 1] rfl rfl rfl (Nat.le_of_ble_eq_true rfl) (Nat.le_of_ble_eq_true rfl) rfl
    · have c_2 : p1.toInt < 0 := k_leF (by decide +kernel) rfl c_2
      exfalso; omega
set_option maxHeartbeats 4000000 in
set_option maxRecDepth 100000 in
theorem c_X6_isThing_v0 (l : Launch) (dC : Nat → ClassId) (dI : Nat → Nat → Nat) (cI cJ cZ cM : ClassId) (p0 : Nat) (p1 : Int32) (p2 : Nat → Nat)   : k_Mi l yX6_isThing wsX6_isThing ({ frames := 1, cells := 0, slots := 0, locals := 40 }) (dC, dI) vwCl (tyy cI cJ cZ cM) [(p0, .inr (6, [.ref (p2 0), .int 0, .ref (p2 1), .ref (p2 14), .ref (p2 27), .ref (p2 28), .ref (p2 29), .ref (p2 30), .ref (p2 54), .null, .int 1, .int 1, .int 999, .ref (p2 61), .ref (p2 62), .ref (p2 63), .ref (p2 60)])), ((p2 1), .inr (5, [.ref (p2 2), .ref (p2 3), .ref (p2 4), .ref (p2 5), .ref (p2 6), .ref (p2 7), .ref (p2 8), .ref (p2 9), .ref (p2 10), .ref (p2 11), .ref (p2 12), .ref (p2 13), .int 0, .int 0, .int 0, .int 0, .int 0, .int 100, .int 0, .int 0]))] [.ref p0, .int p1] 0 0 (fun (u9 : Unit) => [(p0, .inr (6, [.ref (p2 0), .int 0, .ref (p2 1), .ref (p2 14), .ref (p2 27), .ref (p2 28), .ref (p2 29), .ref (p2 30), .ref (p2 54), .null, .int 1, .int 1, .int 999, .ref (p2 61), .ref (p2 62), .ref (p2 63), .ref (p2 60)])), ((p2 1), .inr (5, [.ref (p2 2), .ref (p2 3), .ref (p2 4), .ref (p2 5), .ref (p2 6), .ref (p2 7), .ref (p2 8), .ref (p2 9), .ref (p2 10), .ref (p2 11), .ref (p2 12), .ref (p2 13), .int 0, .int 0, .int 0, .int 0, .int 0, .int 100, .int 0, .int 0]))]) (fun (r9 : Int32) (u9 : Unit) => r9 = 0) := by
  refine fun sz => k_enter (cc := cX6_isThing) (maxL := 2) (ret := some (.boolean)) (Qc := fun A => va_Qi (fun (r9 : Int32) (u9 : Unit) => r9 = 0) (fun u => k_B (dC, dI) vwCl (tyy cI cJ cZ cM) A ((fun (u9 : Unit) => [(p0, .inr (6, [.ref (p2 0), .int 0, .ref (p2 1), .ref (p2 14), .ref (p2 27), .ref (p2 28), .ref (p2 29), .ref (p2 30), .ref (p2 54), .null, .int 1, .int 1, .int 999, .ref (p2 61), .ref (p2 62), .ref (p2 63), .ref (p2 60)])), ((p2 1), .inr (5, [.ref (p2 2), .ref (p2 3), .ref (p2 4), .ref (p2 5), .ref (p2 6), .ref (p2 7), .ref (p2 8), .ref (p2 9), .ref (p2 10), .ref (p2 11), .ref (p2 12), .ref (p2 13), .int 0, .int 0, .int 0, .int 0, .int 0, .int 100, .int 0, .int 0]))]) u)) A) sz (by decide +kernel) rfl (Nat.le_of_ble_eq_true rfl) (fun p e s m args below meth c A ls H locs B hP hD hS hl => ?_)
  obtain ⟨hx, hb, hml, hown, hts, hr, hlk, hnm, hK, hA, hN, hC⟩ := id B
  have hown : s.vm.findClass RX6 = some m.cls := hown
  have hl : lv_has ls 2 [(0, .ref p0), (1, .int p1)] := hl
  have w_0 : (Cond.fieldLink RX6 16 "WishSea" "live" "LWishSea$Shore;").before args s = true := hts _ (List.mem_of_getElem? (i := 1) rfl)
  have w_1 : (Cond.fieldLink RX6 130 "WishSea$Shore" "things" "I").before args s = true := hts _ (List.mem_of_getElem? (i := 2) rfl)
  have hinX6 : ∀ w ∈ u_ws RX6 TX6 17, w ∈ wsX6_isThing := fun _ h => List.mem_cons_of_mem _ (List.mem_append_left _ (List.mem_append_right _ h))
  have hinX5 : ∀ w ∈ u_ws RX5 TX5 20, w ∈ wsX6_isThing := fun _ h => List.mem_cons_of_mem _ (List.mem_append_right _ h)
  refine lv_iload_n hx hb dX6_isThing_0 rfl (lv_at hl 1 rfl) ?_
  refine lv_if_lt (tgt := 19) hx hb dX6_isThing_1 (by decide) (fun c_1 => ?_) (fun c_1 => ?_)
  · have c_1 : p1.toInt < 0 := k_ltT rfl (by decide +kernel) c_1
    refine lv_iconst (v := 0) hx hb dX6_isThing_19 (by decide +kernel) ?_
    exact k_ri B hP hD hS dX6_isThing_20 () [0, 1] rfl rfl rfl (Nat.le_of_ble_eq_true rfl) (Nat.le_of_ble_eq_true rfl) rfl
  · have c_1 : 0 ≤ p1.toInt := k_ltF rfl (by decide +kernel) c_1
    refine lv_iload_n hx hb dX6_isThing_4 rfl (lv_at hl 1 rfl) ?_
    refine lv_aload_n hx hb dX6_isThing_5 rfl (lv_at hl 0 rfl) ?_
    refine k_get (D := (dC, dI)) (ci := 6) (v := .ref (p2 1)) (C := RX6) (T := TX6) (N := 17) hx hb hts hinX6 hown hK hP 0 rfl rfl 2 (by decide) w_0 rfl rfl dX6_isThing_6 ?_
    refine k_get (D := (dC, dI)) (ci := 5) (v := .int 0) (C := RX5) (T := TX5) (N := 20) hx hb hts hinX5 hown hK hP 1 rfl rfl 13 (by decide) w_1 rfl rfl dX6_isThing_9 ?_
    refine lv_icmp_ge (tgt := 19) hx hb dX6_isThing_12 (by decide) (fun c_2 => ?_) (fun c_2 => ?_)
    · have c_2 : 0 ≤ p1.toInt := k_leT (by decide +kernel) rfl c_2
      refine lv_iconst (v := 0) hx hb dX6_isThing_19 (by decide +kernel) ?_
      exact k_ri B hP hD hS dX6_isThing_20 () [0, 1] rfl rfl rfl (Nat.le_of_ble_eq_true rfl) (Nat.le_of_ble_eq_true rfl) rfl
    · have c_2 : p1.toInt < 0 := k_leF (by decide +kernel) rfl c_2
      exfalso; omega
set_option maxHeartbeats 4000000 in
set_option maxRecDepth 100000 in
theorem c_X6_letter_v0 (l : Launch) (dC : Nat → ClassId) (dI : Nat → Nat → Nat) (cI cJ cZ cM : ClassId) (p0 : Nat) (p1 : Int32) (p2 : Int32) (p3 : Int32) (p4 : Nat → Nat)   : k_Mi l yX6_letter wsX6_letter ({ frames := 2, cells := 0, slots := 0, locals := 61 }) (dC, dI) vwCl (tyy cI cJ cZ cM) [(p0, .inr (6, [.ref (p4 0), .int 0, .ref (p4 1), .ref (p4 14), .ref (p4 27), .ref (p4 28), .ref (p4 29), .ref (p4 30), .ref (p4 54), .null, .int 1, .int 1, .int 999, .ref (p4 61), .ref (p4 62), .ref (p4 63), .ref (p4 60)])), ((p4 1), .inr (5, [.ref (p4 2), .ref (p4 3), .ref (p4 4), .ref (p4 5), .ref (p4 6), .ref (p4 7), .ref (p4 8), .ref (p4 9), .ref (p4 10), .ref (p4 11), .ref (p4 12), .ref (p4 13), .int 0, .int 0, .int 0, .int 0, .int 0, .int 100, .int 0, .int 0]))] [.ref p0, .int p1, .int p2, .int p3] 0 0 (fun (u9 : Unit) => [(p0, .inr (6, [.ref (p4 0), .int 0, .ref (p4 1), .ref (p4 14), .ref (p4 27), .ref (p4 28), .ref (p4 29), .ref (p4 30), .ref (p4 54), .null, .int 1, .int 1, .int 999, .ref (p4 61), .ref (p4 62), .ref (p4 63), .ref (p4 60)])), ((p4 1), .inr (5, [.ref (p4 2), .ref (p4 3), .ref (p4 4), .ref (p4 5), .ref (p4 6), .ref (p4 7), .ref (p4 8), .ref (p4 9), .ref (p4 10), .ref (p4 11), .ref (p4 12), .ref (p4 13), .int 0, .int 0, .int 0, .int 0, .int 0, .int 100, .int 0, .int 0]))]) (fun (r9 : Int32) (u9 : Unit) => r9 = (-1)) := by
  refine fun sz => k_enter (cc := cX6_letter) (maxL := 4) (ret := some (.int)) (Qc := fun A => va_Qi (fun (r9 : Int32) (u9 : Unit) => r9 = (-1)) (fun u => k_B (dC, dI) vwCl (tyy cI cJ cZ cM) A ((fun (u9 : Unit) => [(p0, .inr (6, [.ref (p4 0), .int 0, .ref (p4 1), .ref (p4 14), .ref (p4 27), .ref (p4 28), .ref (p4 29), .ref (p4 30), .ref (p4 54), .null, .int 1, .int 1, .int 999, .ref (p4 61), .ref (p4 62), .ref (p4 63), .ref (p4 60)])), ((p4 1), .inr (5, [.ref (p4 2), .ref (p4 3), .ref (p4 4), .ref (p4 5), .ref (p4 6), .ref (p4 7), .ref (p4 8), .ref (p4 9), .ref (p4 10), .ref (p4 11), .ref (p4 12), .ref (p4 13), .int 0, .int 0, .int 0, .int 0, .int 0, .int 100, .int 0, .int 0]))]) u)) A) sz (by decide +kernel) rfl (Nat.le_of_ble_eq_true rfl) (fun p e s m args below meth c A ls H locs B hP hD hS hl => ?_)
  obtain ⟨hx, hb, hml, hown, hts, hr, hlk, hnm, hK, hA, hN, hC⟩ := id B
  have hown : s.vm.findClass RX6 = some m.cls := hown
  have hl : lv_has ls 4 [(0, .ref p0), (1, .int p1), (2, .int p2), (3, .int p3)] := hl
  refine lv_iload_n hx hb dX6_letter_0 rfl (lv_at hl 3 rfl) ?_
  refine lv_if_lt (tgt := 9) hx hb dX6_letter_1 (by decide) (fun c_1 => ?_) (fun c_1 => ?_)
  · have c_1 : p3.toInt < 0 := k_ltT rfl (by decide +kernel) c_1
    refine lv_iconst (v := (-1)) hx hb dX6_letter_9 (by decide +kernel) ?_
    exact k_ri B hP hD hS dX6_letter_10 () [0, 1] rfl rfl rfl (Nat.le_of_ble_eq_true rfl) (Nat.le_of_ble_eq_true rfl) rfl
  · have c_1 : 0 ≤ p3.toInt := k_ltF rfl (by decide +kernel) c_1
    refine lv_iload_n hx hb dX6_letter_4 rfl (lv_at hl 3 rfl) ?_
    refine lv_iconst (v := 5) hx hb dX6_letter_5 (by decide +kernel) ?_
    refine lv_icmp_le (tgt := 11) hx hb dX6_letter_6 (by decide) (fun c_2 => ?_) (fun c_2 => ?_)
    · have c_2 : p3.toInt ≤ 5 := k_leT rfl (by decide +kernel) c_2
      refine lv_iload_n hx hb dX6_letter_11 rfl (lv_at hl 1 rfl) ?_
      refine lv_if_ne (tgt := 37) hx hb dX6_letter_12 (by decide) (fun c_3 => ?_) (fun c_3 => ?_)
      · have c_3 : ¬ p1.toInt = 0 := k_eqF rfl (by decide +kernel) c_3
        refine lv_iload_n hx hb dX6_letter_37 rfl (lv_at hl 1 rfl) ?_
        refine lv_iconst (v := 1) hx hb dX6_letter_38 (by decide +kernel) ?_
        refine lv_icmp_ne (tgt := 64) hx hb dX6_letter_39 (by decide) (fun c_4 => ?_) (fun c_4 => ?_)
        · have c_4 : ¬ p1.toInt = 1 := k_eqF rfl (by decide +kernel) c_4
          refine lv_iconst (v := (-1)) hx hb dX6_letter_64 (by decide +kernel) ?_
          exact k_ri B hP hD hS dX6_letter_65 () [0, 1] rfl rfl rfl (Nat.le_of_ble_eq_true rfl) (Nat.le_of_ble_eq_true rfl) rfl
        · have c_4 : p1.toInt = 1 := k_eqT rfl (by decide +kernel) c_4
          refine lv_aload_n hx hb dX6_letter_42 rfl (lv_at hl 0 rfl) ?_
          refine lv_iload_n hx hb dX6_letter_43 rfl (lv_at hl 2 rfl) ?_
          refine k_ci (wc := [(p0, .inr (6, [.ref (p4 0), .int 0, .ref (p4 1), .ref (p4 14), .ref (p4 27), .ref (p4 28), .ref (p4 29), .ref (p4 30), .ref (p4 54), .null, .int 1, .int 1, .int 999, .ref (p4 61), .ref (p4 62), .ref (p4 63), .ref (p4 60)])), ((p4 1), .inr (5, [.ref (p4 2), .ref (p4 3), .ref (p4 4), .ref (p4 5), .ref (p4 6), .ref (p4 7), .ref (p4 8), .ref (p4 9), .ref (p4 10), .ref (p4 11), .ref (p4 12), .ref (p4 13), .int 0, .int 0, .int 0, .int 0, .int 0, .int 100, .int 0, .int 0]))]) (wr := []) (fun hPc hDc hFc => va_runV (As := [.int p2]) (rest := []) ⟨hx, hb, hml, hown, hts⟩ (c_X6_isWish_v0 l dC dI cI cJ cZ cM p0 p2 p4 H.size) (cwV 1 hts gX6_letter_X6_isWish rfl rfl rfl (by decide +kernel) ⟨(Nat.le_of_ble_eq_true rfl), (Nat.le_of_ble_eq_true rfl)⟩) (k_pV hPc hDc hK hN hC hS hFc hP (q0 := 0) (ci := 6) rfl rfl) rfl rfl hl.1 rfl (lv_room (Nat.le_of_ble_eq_true rfl)) dX6_letter_44 ⟨(Nat.le_of_ble_eq_true rfl), (Nat.le_of_ble_eq_true rfl)⟩) hP hD hS hA [0, 1] [] rfl rfl rfl rfl (by decide) (fun _ => rfl) 0 0 rfl rfl (fun r_5 u_6 H locs hw hP hD hS => ?_)
          obtain rfl : r_5 = 0 := hw
          have hP : va_P (dC, dI) vwCl [(p0, .inr (6, [.ref (p4 0), .int 0, .ref (p4 1), .ref (p4 14), .ref (p4 27), .ref (p4 28), .ref (p4 29), .ref (p4 30), .ref (p4 54), .null, .int 1, .int 1, .int 999, .ref (p4 61), .ref (p4 62), .ref (p4 63), .ref (p4 60)])), ((p4 1), .inr (5, [.ref (p4 2), .ref (p4 3), .ref (p4 4), .ref (p4 5), .ref (p4 6), .ref (p4 7), .ref (p4 8), .ref (p4 9), .ref (p4 10), .ref (p4 11), .ref (p4 12), .ref (p4 13), .int 0, .int 0, .int 0, .int 0, .int 0, .int 100, .int 0, .int 0]))] H := hP
          have hD : va_D A [(p0, .inr (6, [.ref (p4 0), .int 0, .ref (p4 1), .ref (p4 14), .ref (p4 27), .ref (p4 28), .ref (p4 29), .ref (p4 30), .ref (p4 54), .null, .int 1, .int 1, .int 999, .ref (p4 61), .ref (p4 62), .ref (p4 63), .ref (p4 60)])), ((p4 1), .inr (5, [.ref (p4 2), .ref (p4 3), .ref (p4 4), .ref (p4 5), .ref (p4 6), .ref (p4 7), .ref (p4 8), .ref (p4 9), .ref (p4 10), .ref (p4 11), .ref (p4 12), .ref (p4 13), .int 0, .int 0, .int 0, .int 0, .int 0, .int 100, .int 0, .int 0]))] := hD
          refine lv_if_eq (tgt := 64) hx hb dX6_letter_47 (by decide) (fun _ => ?_) (fun q9 => absurd q9 (by decide +kernel))
          refine lv_iconst (v := (-1)) hx hb dX6_letter_64 (by decide +kernel) ?_
          exact k_ri B hP hD hS dX6_letter_65 () [0, 1] rfl rfl rfl (Nat.le_of_ble_eq_true rfl) (Nat.le_of_ble_eq_true rfl) rfl
      · have c_3 : p1.toInt = 0 := k_eqT rfl (by decide +kernel) c_3
        refine lv_aload_n hx hb dX6_letter_15 rfl (lv_at hl 0 rfl) ?_
        refine lv_iload_n hx hb dX6_letter_16 rfl (lv_at hl 2 rfl) ?_
        refine k_ci (wc := [(p0, .inr (6, [.ref (p4 0), .int 0, .ref (p4 1), .ref (p4 14), .ref (p4 27), .ref (p4 28), .ref (p4 29), .ref (p4 30), .ref (p4 54), .null, .int 1, .int 1, .int 999, .ref (p4 61), .ref (p4 62), .ref (p4 63), .ref (p4 60)])), ((p4 1), .inr (5, [.ref (p4 2), .ref (p4 3), .ref (p4 4), .ref (p4 5), .ref (p4 6), .ref (p4 7), .ref (p4 8), .ref (p4 9), .ref (p4 10), .ref (p4 11), .ref (p4 12), .ref (p4 13), .int 0, .int 0, .int 0, .int 0, .int 0, .int 100, .int 0, .int 0]))]) (wr := []) (fun hPc hDc hFc => va_runV (As := [.int p2]) (rest := []) ⟨hx, hb, hml, hown, hts⟩ (c_X6_isThing_v0 l dC dI cI cJ cZ cM p0 p2 p4 H.size) (cwV 1 hts gX6_letter_X6_isThing rfl rfl rfl (by decide +kernel) ⟨(Nat.le_of_ble_eq_true rfl), (Nat.le_of_ble_eq_true rfl)⟩) (k_pV hPc hDc hK hN hC hS hFc hP (q0 := 0) (ci := 6) rfl rfl) rfl rfl hl.1 rfl (lv_room (Nat.le_of_ble_eq_true rfl)) dX6_letter_17 ⟨(Nat.le_of_ble_eq_true rfl), (Nat.le_of_ble_eq_true rfl)⟩) hP hD hS hA [0, 1] [] rfl rfl rfl rfl (by decide) (fun _ => rfl) 0 0 rfl rfl (fun r_7 u_8 H locs hw hP hD hS => ?_)
        obtain rfl : r_7 = 0 := hw
        have hP : va_P (dC, dI) vwCl [(p0, .inr (6, [.ref (p4 0), .int 0, .ref (p4 1), .ref (p4 14), .ref (p4 27), .ref (p4 28), .ref (p4 29), .ref (p4 30), .ref (p4 54), .null, .int 1, .int 1, .int 999, .ref (p4 61), .ref (p4 62), .ref (p4 63), .ref (p4 60)])), ((p4 1), .inr (5, [.ref (p4 2), .ref (p4 3), .ref (p4 4), .ref (p4 5), .ref (p4 6), .ref (p4 7), .ref (p4 8), .ref (p4 9), .ref (p4 10), .ref (p4 11), .ref (p4 12), .ref (p4 13), .int 0, .int 0, .int 0, .int 0, .int 0, .int 100, .int 0, .int 0]))] H := hP
        have hD : va_D A [(p0, .inr (6, [.ref (p4 0), .int 0, .ref (p4 1), .ref (p4 14), .ref (p4 27), .ref (p4 28), .ref (p4 29), .ref (p4 30), .ref (p4 54), .null, .int 1, .int 1, .int 999, .ref (p4 61), .ref (p4 62), .ref (p4 63), .ref (p4 60)])), ((p4 1), .inr (5, [.ref (p4 2), .ref (p4 3), .ref (p4 4), .ref (p4 5), .ref (p4 6), .ref (p4 7), .ref (p4 8), .ref (p4 9), .ref (p4 10), .ref (p4 11), .ref (p4 12), .ref (p4 13), .int 0, .int 0, .int 0, .int 0, .int 0, .int 100, .int 0, .int 0]))] := hD
        refine lv_if_eq (tgt := 37) hx hb dX6_letter_20 (by decide) (fun _ => ?_) (fun q9 => absurd q9 (by decide +kernel))
        refine lv_iload_n hx hb dX6_letter_37 rfl (lv_at hl 1 rfl) ?_
        refine lv_iconst (v := 1) hx hb dX6_letter_38 (by decide +kernel) ?_
        refine lv_icmp_ne (tgt := 64) hx hb dX6_letter_39 (by decide) (fun c_9 => ?_) (fun c_9 => ?_)
        · have c_9 : ¬ p1.toInt = 1 := k_eqF rfl (by decide +kernel) c_9
          refine lv_iconst (v := (-1)) hx hb dX6_letter_64 (by decide +kernel) ?_
          exact k_ri B hP hD hS dX6_letter_65 () [0, 1] rfl rfl rfl (Nat.le_of_ble_eq_true rfl) (Nat.le_of_ble_eq_true rfl) rfl
        · have c_9 : p1.toInt = 1 := k_eqT rfl (by decide +kernel) c_9
          exfalso; omega
    · have c_2 : 5 < p3.toInt := k_leF rfl (by decide +kernel) c_2
      refine lv_iconst (v := (-1)) hx hb dX6_letter_9 (by decide +kernel) ?_
      exact k_ri B hP hD hS dX6_letter_10 () [0, 1] rfl rfl rfl (Nat.le_of_ble_eq_true rfl) (Nat.le_of_ble_eq_true rfl) rfl
set_option maxHeartbeats 4000000 in
set_option maxRecDepth 100000 in
theorem c_X7_is_v0 (l : Launch) (dC : Nat → ClassId) (dI : Nat → Nat → Nat) (cI cJ cZ cM : ClassId) (p0 : Int32)   : k_Mi l yX7_is wsX7_is ({ frames := 1, cells := 0, slots := 0, locals := 40 }) (dC, dI) vwCl (tyy cI cJ cZ cM) [] [.int p0, .int 0, .int 1] 0 0 (fun (u9 : (Nat × (Nat → Nat))) => []) (fun (r9 : Int32) (u9 : (Nat × (Nat → Nat))) => match u9.1 with | 0 => (p0.toInt < 0) ∧ r9 = 0 | 1 => (0 ≤ p0.toInt) ∧ (1 < p0.toInt) ∧ r9 = 0 | 2 => (0 ≤ p0.toInt) ∧ (p0.toInt ≤ 1) ∧ r9 = 1 | _ => False) := by
  refine fun sz => k_enter (cc := cX7_is) (maxL := 3) (ret := some (.boolean)) (Qc := fun A => va_Qi (fun (r9 : Int32) (u9 : (Nat × (Nat → Nat))) => match u9.1 with | 0 => (p0.toInt < 0) ∧ r9 = 0 | 1 => (0 ≤ p0.toInt) ∧ (1 < p0.toInt) ∧ r9 = 0 | 2 => (0 ≤ p0.toInt) ∧ (p0.toInt ≤ 1) ∧ r9 = 1 | _ => False) (fun u => k_B (dC, dI) vwCl (tyy cI cJ cZ cM) A ((fun (u9 : (Nat × (Nat → Nat))) => []) u)) A) sz (by decide +kernel) rfl (Nat.le_of_ble_eq_true rfl) (fun p e s m args below meth c A ls H locs B hP hD hS hl => ?_)
  obtain ⟨hx, hb, hml, hown, hts, hr, hlk, hnm, hK, hA, hN, hC⟩ := id B
  have hown : s.vm.findClass RX7 = some m.cls := hown
  have hl : lv_has ls 3 [(0, .int p0), (1, .int 0), (2, .int 1)] := hl
  refine lv_iload_n hx hb dX7_is_0 rfl (lv_at hl 0 rfl) ?_
  refine lv_iload_n hx hb dX7_is_1 rfl (lv_at hl 1 rfl) ?_
  refine lv_icmp_lt (tgt := 14) hx hb dX7_is_2 (by decide) (fun c_1 => ?_) (fun c_1 => ?_)
  · have c_1 : p0.toInt < 0 := k_ltT rfl (by decide +kernel) c_1
    refine lv_iconst (v := 0) hx hb dX7_is_14 (by decide +kernel) ?_
    exact k_ri B hP hD hS dX7_is_15 (0, (fun _ => 0)) [] rfl rfl rfl (Nat.le_of_ble_eq_true rfl) (Nat.le_of_ble_eq_true rfl) ⟨c_1, rfl⟩
  · have c_1 : 0 ≤ p0.toInt := k_ltF rfl (by decide +kernel) c_1
    refine lv_iload_n hx hb dX7_is_5 rfl (lv_at hl 0 rfl) ?_
    refine lv_iload_n hx hb dX7_is_6 rfl (lv_at hl 2 rfl) ?_
    refine lv_icmp_gt (tgt := 14) hx hb dX7_is_7 (by decide) (fun c_2 => ?_) (fun c_2 => ?_)
    · have c_2 : 1 < p0.toInt := k_ltT (by decide +kernel) rfl c_2
      refine lv_iconst (v := 0) hx hb dX7_is_14 (by decide +kernel) ?_
      exact k_ri B hP hD hS dX7_is_15 (1, (fun _ => 0)) [] rfl rfl rfl (Nat.le_of_ble_eq_true rfl) (Nat.le_of_ble_eq_true rfl) ⟨c_1, c_2, rfl⟩
    · have c_2 : p0.toInt ≤ 1 := k_ltF (by decide +kernel) rfl c_2
      refine lv_iconst (v := 1) hx hb dX7_is_10 (by decide +kernel) ?_
      refine lv_goto (tgt := 15) hx hb dX7_is_11 (by decide) ?_
      exact k_ri B hP hD hS dX7_is_15 (2, (fun _ => 0)) [] rfl rfl rfl (Nat.le_of_ble_eq_true rfl) (Nat.le_of_ble_eq_true rfl) ⟨c_1, c_2, rfl⟩
set_option maxHeartbeats 4000000 in
set_option maxRecDepth 100000 in
theorem c_X7_manyOf_v0 (l : Launch) (dC : Nat → ClassId) (dI : Nat → Nat → Nat) (cI cJ cZ cM : ClassId) (p0 : Nat) (p1 : Int32) (p2 : Nat → Nat) (b_0 : 0 ≤ p1.toInt) (t_0 : p1.toInt ≤ 1)  : k_Mi l yX7_manyOf wsX7_manyOf ({ frames := 1, cells := 0, slots := 0, locals := 40 }) (dC, dI) vwCl (tyy cI cJ cZ cM) [(p0, .inr (7, oM p2 i7 j7)), ((p2 14), .inl (cI, 2, .inl (fun _ => 0))), ((p2 18), .inl (cI, 2, .inl (fun _ => 0)))] [.ref p0, .int 0, .int p1] 0 0 (fun (u9 : Unit) => [(p0, .inr (7, oM p2 i7 j7)), ((p2 14), .inl (cI, 2, .inl (fun _ => 0))), ((p2 18), .inl (cI, 2, .inl (fun _ => 0)))]) (fun (r9 : Int32) (u9 : Unit) => r9 = 0) := by
  refine fun sz => k_enter (cc := cX7_manyOf) (maxL := 3) (ret := some (.int)) (Qc := fun A => va_Qi (fun (r9 : Int32) (u9 : Unit) => r9 = 0) (fun u => k_B (dC, dI) vwCl (tyy cI cJ cZ cM) A ((fun (u9 : Unit) => [(p0, .inr (7, oM p2 i7 j7)), ((p2 14), .inl (cI, 2, .inl (fun _ => 0))), ((p2 18), .inl (cI, 2, .inl (fun _ => 0)))]) u)) A) sz (by decide +kernel) rfl (Nat.le_of_ble_eq_true rfl) (fun p e s m args below meth c A ls H locs B hP hD hS hl => ?_)
  obtain ⟨hx, hb, hml, hown, hts, hr, hlk, hnm, hK, hA, hN, hC⟩ := id B
  have hown : s.vm.findClass RX7 = some m.cls := hown
  have hl : lv_has ls 3 [(0, .ref p0), (1, .int 0), (2, .int p1)] := hl
  have w_0 : (Cond.fieldLink RX7 54 "WishSeaModel" "things" "[I").before args s = true := hts _ (List.mem_of_getElem? (i := 1) rfl)
  have w_1 : (Cond.fieldLink RX7 66 "WishSeaModel" "wishes" "[I").before args s = true := hts _ (List.mem_of_getElem? (i := 2) rfl)
  have hinX7 : ∀ w ∈ u_ws RX7 TX7 92, w ∈ wsX7_manyOf := fun _ h => List.mem_cons_of_mem _ (List.mem_append_right _ h)
  rcases (show p1.toInt = 0 ∨ p1.toInt = 1 by omega) with c_1 | c_1
  · obtain rfl : p1 = 0 := k_eqL (by decide +kernel) c_1
    refine lv_iload_n hx hb dX7_manyOf_0 rfl (lv_at hl 2 rfl) ?_
    refine lv_if_ne (tgt := 13) hx hb dX7_manyOf_1 (by decide) (fun q9 => absurd q9 (by decide +kernel)) (fun _ => ?_)
    refine lv_aload_n hx hb dX7_manyOf_4 rfl (lv_at hl 0 rfl) ?_
    refine k_get (D := (dC, dI)) (ci := 7) (v := .ref (p2 14)) (C := RX7) (T := TX7) (N := 92) hx hb hts hinX7 hown hK hP 0 rfl rfl 14 (by decide) w_0 rfl rfl dX7_manyOf_5 ?_
    refine lv_iload_n hx hb dX7_manyOf_8 rfl (lv_at hl 1 rfl) ?_
    refine k_iald (v := 0) hx hb hK hP 1 0 0 rfl rfl rfl (Nat.le_of_ble_eq_true rfl) (Nat.le_of_ble_eq_true rfl) rfl dX7_manyOf_9 ?_
    refine lv_goto (tgt := 19) hx hb dX7_manyOf_10 (by decide) ?_
    exact k_ri B hP hD hS dX7_manyOf_19 () [0, 1, 2] rfl rfl rfl (Nat.le_of_ble_eq_true rfl) (Nat.le_of_ble_eq_true rfl) rfl
  · obtain rfl : p1 = 1 := k_eqL (by decide +kernel) c_1
    refine lv_iload_n hx hb dX7_manyOf_0 rfl (lv_at hl 2 rfl) ?_
    refine lv_if_ne (tgt := 13) hx hb dX7_manyOf_1 (by decide) (fun _ => ?_) (fun q9 => absurd q9 (by decide +kernel))
    refine lv_aload_n hx hb dX7_manyOf_13 rfl (lv_at hl 0 rfl) ?_
    refine k_get (D := (dC, dI)) (ci := 7) (v := .ref (p2 18)) (C := RX7) (T := TX7) (N := 92) hx hb hts hinX7 hown hK hP 0 rfl rfl 18 (by decide) w_1 rfl rfl dX7_manyOf_14 ?_
    refine lv_iload_n hx hb dX7_manyOf_17 rfl (lv_at hl 1 rfl) ?_
    refine k_iald (v := 0) hx hb hK hP 2 0 0 rfl rfl rfl (Nat.le_of_ble_eq_true rfl) (Nat.le_of_ble_eq_true rfl) rfl dX7_manyOf_18 ?_
    exact k_ri B hP hD hS dX7_manyOf_19 () [0, 1, 2] rfl rfl rfl (Nat.le_of_ble_eq_true rfl) (Nat.le_of_ble_eq_true rfl) rfl
set_option maxHeartbeats 4000000 in
set_option maxRecDepth 100000 in
theorem c_X7_is_v1 (l : Launch) (dC : Nat → ClassId) (dI : Nat → Nat → Nat) (cI cJ cZ cM : ClassId) (p0 : Int32)   : k_Mi l yX7_is wsX7_is ({ frames := 1, cells := 0, slots := 0, locals := 40 }) (dC, dI) vwCl (tyy cI cJ cZ cM) [] [.int p0, .int 0, .int (-1)] 0 0 (fun (u9 : Unit) => []) (fun (r9 : Int32) (u9 : Unit) => r9 = 0) := by
  refine fun sz => k_enter (cc := cX7_is) (maxL := 3) (ret := some (.boolean)) (Qc := fun A => va_Qi (fun (r9 : Int32) (u9 : Unit) => r9 = 0) (fun u => k_B (dC, dI) vwCl (tyy cI cJ cZ cM) A ((fun (u9 : Unit) => []) u)) A) sz (by decide +kernel) rfl (Nat.le_of_ble_eq_true rfl) (fun p e s m args below meth c A ls H locs B hP hD hS hl => ?_)
  obtain ⟨hx, hb, hml, hown, hts, hr, hlk, hnm, hK, hA, hN, hC⟩ := id B
  have hown : s.vm.findClass RX7 = some m.cls := hown
  have hl : lv_has ls 3 [(0, .int p0), (1, .int 0), (2, .int (-1))] := hl
  refine lv_iload_n hx hb dX7_is_0 rfl (lv_at hl 0 rfl) ?_
  refine lv_iload_n hx hb dX7_is_1 rfl (lv_at hl 1 rfl) ?_
  refine lv_icmp_lt (tgt := 14) hx hb dX7_is_2 (by decide) (fun c_1 => ?_) (fun c_1 => ?_)
  · have c_1 : p0.toInt < 0 := k_ltT rfl (by decide +kernel) c_1
    refine lv_iconst (v := 0) hx hb dX7_is_14 (by decide +kernel) ?_
    exact k_ri B hP hD hS dX7_is_15 () [] rfl rfl rfl (Nat.le_of_ble_eq_true rfl) (Nat.le_of_ble_eq_true rfl) rfl
  · have c_1 : 0 ≤ p0.toInt := k_ltF rfl (by decide +kernel) c_1
    refine lv_iload_n hx hb dX7_is_5 rfl (lv_at hl 0 rfl) ?_
    refine lv_iload_n hx hb dX7_is_6 rfl (lv_at hl 2 rfl) ?_
    refine lv_icmp_gt (tgt := 14) hx hb dX7_is_7 (by decide) (fun c_2 => ?_) (fun c_2 => ?_)
    · have c_2 : (-1) < p0.toInt := k_ltT (by decide +kernel) rfl c_2
      refine lv_iconst (v := 0) hx hb dX7_is_14 (by decide +kernel) ?_
      exact k_ri B hP hD hS dX7_is_15 () [] rfl rfl rfl (Nat.le_of_ble_eq_true rfl) (Nat.le_of_ble_eq_true rfl) rfl
    · have c_2 : p0.toInt ≤ (-1) := k_ltF (by decide +kernel) rfl c_2
      exfalso; omega
set_option maxHeartbeats 4000000 in
set_option maxRecDepth 100000 in
theorem c_X7_letter_v0 (l : Launch) (dC : Nat → ClassId) (dI : Nat → Nat → Nat) (cI cJ cZ cM : ClassId) (p0 : Nat) (p1 : Int32) (p2 : Int32) (p3 : Int32) (p4 : Nat → Nat)   : k_Mi l yX7_letter wsX7_letter ({ frames := 2, cells := 0, slots := 0, locals := 62 }) (dC, dI) vwCl (tyy cI cJ cZ cM) [(p0, .inr (7, oM p4 i7 j7)), ((p4 14), .inl (cI, 2, .inl (fun _ => 0))), ((p4 18), .inl (cI, 2, .inl (fun _ => 0)))] [.ref p0, .int p1, .int p2, .int p3] 0 0 (fun (u9 : Unit) => [(p0, .inr (7, oM p4 i7 j7)), ((p4 14), .inl (cI, 2, .inl (fun _ => 0))), ((p4 18), .inl (cI, 2, .inl (fun _ => 0)))]) (fun (r9 : Int32) (u9 : Unit) => r9 = (-1)) := by
  refine fun sz => k_enter (cc := cX7_letter) (maxL := 9) (ret := some (.int)) (Qc := fun A => va_Qi (fun (r9 : Int32) (u9 : Unit) => r9 = (-1)) (fun u => k_B (dC, dI) vwCl (tyy cI cJ cZ cM) A ((fun (u9 : Unit) => [(p0, .inr (7, oM p4 i7 j7)), ((p4 14), .inl (cI, 2, .inl (fun _ => 0))), ((p4 18), .inl (cI, 2, .inl (fun _ => 0)))]) u)) A) sz (by decide +kernel) rfl (Nat.le_of_ble_eq_true rfl) (fun p e s m args below meth c A ls H locs B hP hD hS hl => ?_)
  obtain ⟨hx, hb, hml, hown, hts, hr, hlk, hnm, hK, hA, hN, hC⟩ := id B
  have hown : s.vm.findClass RX7 = some m.cls := hown
  have hl : lv_has ls 9 [(0, .ref p0), (1, .int p1), (2, .int p2), (3, .int p3)] := hl
  have w_0 : (Cond.fieldLink RX7 51 "WishSeaModel" "bank" "I").before args s = true := hts _ (List.mem_of_getElem? (i := 1) rfl)
  have hinX7 : ∀ w ∈ u_ws RX7 TX7 92, w ∈ wsX7_letter := fun _ h => List.mem_cons_of_mem _ (List.mem_append_right _ h)
  refine lv_iload_n hx hb dX7_letter_0 rfl (lv_at hl 1 rfl) ?_
  refine lv_iconst (v := 0) hx hb dX7_letter_1 (by decide +kernel) ?_
  refine lv_iconst (v := 1) hx hb dX7_letter_2 (by decide +kernel) ?_
  refine k_ci (wc := []) (wr := [(p0, .inr (7, oM p4 i7 j7)), ((p4 14), .inl (cI, 2, .inl (fun _ => 0))), ((p4 18), .inl (cI, 2, .inl (fun _ => 0)))]) (fun hPc hDc hFc => va_runS (As := [.int p1, .int 0, .int 1]) (rest := []) ⟨hx, hb, hml, hown, hts⟩ (c_X7_is_v0 l dC dI cI cJ cZ cM p1 H.size) (va_cwS 3 hts gX7_letter_X7_is rfl rfl rfl (by decide +kernel) ⟨(Nat.le_of_ble_eq_true rfl), (Nat.le_of_ble_eq_true rfl)⟩) (k_pS hPc hDc hK hN hC hS hFc) rfl rfl hl.1 rfl (lv_room (Nat.le_of_ble_eq_true rfl)) dX7_letter_3 ⟨(Nat.le_of_ble_eq_true rfl), (Nat.le_of_ble_eq_true rfl)⟩) hP hD hS hA [] [0, 1, 2] rfl rfl rfl rfl (by decide) (fun _ => rfl) 0 0 rfl rfl (fun r_1 u_2 H locs hw hP hD hS => ?_)
  obtain ⟨k_u_2, u_u_2⟩ := u_2
  rcases k_u_2 with _ | _ | _ | k_u_2
  · obtain ⟨c_3, rfl⟩ : (p1.toInt < 0) ∧ r_1 = 0 := hw
    have hP : va_P (dC, dI) vwCl [(p0, .inr (7, oM p4 i7 j7)), ((p4 14), .inl (cI, 2, .inl (fun _ => 0))), ((p4 18), .inl (cI, 2, .inl (fun _ => 0)))] H := hP
    have hD : va_D A [(p0, .inr (7, oM p4 i7 j7)), ((p4 14), .inl (cI, 2, .inl (fun _ => 0))), ((p4 18), .inl (cI, 2, .inl (fun _ => 0)))] := hD
    refine lv_if_eq (tgt := 37) hx hb dX7_letter_6 (by decide) (fun _ => ?_) (fun q9 => absurd q9 (by decide +kernel))
    refine lv_iconst (v := (-1)) hx hb dX7_letter_37 (by decide +kernel) ?_
    exact k_ri B hP hD hS dX7_letter_38 () [0, 1, 2] rfl rfl rfl (Nat.le_of_ble_eq_true rfl) (Nat.le_of_ble_eq_true rfl) rfl
  · obtain ⟨c_4, c_5, rfl⟩ : (0 ≤ p1.toInt) ∧ (1 < p1.toInt) ∧ r_1 = 0 := hw
    have hP : va_P (dC, dI) vwCl [(p0, .inr (7, oM p4 i7 j7)), ((p4 14), .inl (cI, 2, .inl (fun _ => 0))), ((p4 18), .inl (cI, 2, .inl (fun _ => 0)))] H := hP
    have hD : va_D A [(p0, .inr (7, oM p4 i7 j7)), ((p4 14), .inl (cI, 2, .inl (fun _ => 0))), ((p4 18), .inl (cI, 2, .inl (fun _ => 0)))] := hD
    refine lv_if_eq (tgt := 37) hx hb dX7_letter_6 (by decide) (fun _ => ?_) (fun q9 => absurd q9 (by decide +kernel))
    refine lv_iconst (v := (-1)) hx hb dX7_letter_37 (by decide +kernel) ?_
    exact k_ri B hP hD hS dX7_letter_38 () [0, 1, 2] rfl rfl rfl (Nat.le_of_ble_eq_true rfl) (Nat.le_of_ble_eq_true rfl) rfl
  · obtain ⟨c_6, c_7, rfl⟩ : (0 ≤ p1.toInt) ∧ (p1.toInt ≤ 1) ∧ r_1 = 1 := hw
    have hP : va_P (dC, dI) vwCl [(p0, .inr (7, oM p4 i7 j7)), ((p4 14), .inl (cI, 2, .inl (fun _ => 0))), ((p4 18), .inl (cI, 2, .inl (fun _ => 0)))] H := hP
    have hD : va_D A [(p0, .inr (7, oM p4 i7 j7)), ((p4 14), .inl (cI, 2, .inl (fun _ => 0))), ((p4 18), .inl (cI, 2, .inl (fun _ => 0)))] := hD
    refine lv_if_eq (tgt := 37) hx hb dX7_letter_6 (by decide) (fun q9 => absurd q9 (by decide +kernel)) (fun _ => ?_)
    refine lv_iload_n hx hb dX7_letter_9 rfl (lv_at hl 2 rfl) ?_
    refine lv_iconst (v := 0) hx hb dX7_letter_10 (by decide +kernel) ?_
    refine lv_aload_n hx hb dX7_letter_11 rfl (lv_at hl 0 rfl) ?_
    refine lv_aload_n hx hb dX7_letter_12 rfl (lv_at hl 0 rfl) ?_
    refine k_get (D := (dC, dI)) (ci := 7) (v := .int 0) (C := RX7) (T := TX7) (N := 92) hx hb hts hinX7 hown hK hP 0 rfl rfl 13 (by decide) w_0 rfl rfl dX7_letter_13 ?_
    refine lv_iload_n hx hb dX7_letter_16 rfl (lv_at hl 1 rfl) ?_
    refine k_ci (wc := [(p0, .inr (7, oM p4 i7 j7)), ((p4 14), .inl (cI, 2, .inl (fun _ => 0))), ((p4 18), .inl (cI, 2, .inl (fun _ => 0)))]) (wr := []) (fun hPc hDc hFc => va_runV (As := [.int 0, .int p1]) (rest := [.int 0, .int p2]) ⟨hx, hb, hml, hown, hts⟩ (c_X7_manyOf_v0 l dC dI cI cJ cZ cM p0 p1 p4 (by omega) (by omega) H.size) (cwV 2 hts gX7_letter_X7_manyOf rfl rfl rfl (by decide +kernel) ⟨(Nat.le_of_ble_eq_true rfl), (Nat.le_of_ble_eq_true rfl)⟩) (k_pV hPc hDc hK hN hC hS hFc hP (q0 := 0) (ci := 7) rfl rfl) rfl rfl hl.1 rfl (lv_room (Nat.le_of_ble_eq_true rfl)) dX7_letter_17 ⟨(Nat.le_of_ble_eq_true rfl), (Nat.le_of_ble_eq_true rfl)⟩) hP hD hS hA [0, 1, 2] [] rfl rfl rfl rfl (by decide) (fun _ => rfl) 0 0 rfl rfl (fun r_8 u_9 H locs hw hP hD hS => ?_)
    obtain rfl : r_8 = 0 := hw
    have hP : va_P (dC, dI) vwCl [(p0, .inr (7, oM p4 i7 j7)), ((p4 14), .inl (cI, 2, .inl (fun _ => 0))), ((p4 18), .inl (cI, 2, .inl (fun _ => 0)))] H := hP
    have hD : va_D A [(p0, .inr (7, oM p4 i7 j7)), ((p4 14), .inl (cI, 2, .inl (fun _ => 0))), ((p4 18), .inl (cI, 2, .inl (fun _ => 0)))] := hD
    refine lv_iconst (v := 1) hx hb dX7_letter_20 (by decide +kernel) ?_
    refine lv_isub hx hb dX7_letter_21 ?_
    refine k_int (v := (-1)) (by decide +kernel) ?_
    refine k_ci (wc := []) (wr := [(p0, .inr (7, oM p4 i7 j7)), ((p4 14), .inl (cI, 2, .inl (fun _ => 0))), ((p4 18), .inl (cI, 2, .inl (fun _ => 0)))]) (fun hPc hDc hFc => va_runS (As := [.int p2, .int 0, .int (-1)]) (rest := []) ⟨hx, hb, hml, hown, hts⟩ (c_X7_is_v1 l dC dI cI cJ cZ cM p2 H.size) (va_cwS 3 hts gX7_letter_X7_is rfl rfl rfl (by decide +kernel) ⟨(Nat.le_of_ble_eq_true rfl), (Nat.le_of_ble_eq_true rfl)⟩) (k_pS hPc hDc hK hN hC hS hFc) rfl rfl hl.1 rfl (lv_room (Nat.le_of_ble_eq_true rfl)) dX7_letter_22 ⟨(Nat.le_of_ble_eq_true rfl), (Nat.le_of_ble_eq_true rfl)⟩) hP hD hS hA [] [0, 1, 2] rfl rfl rfl rfl (by decide) (fun _ => rfl) 0 0 rfl rfl (fun r_10 u_11 H locs hw hP hD hS => ?_)
    obtain rfl : r_10 = 0 := hw
    have hP : va_P (dC, dI) vwCl [(p0, .inr (7, oM p4 i7 j7)), ((p4 14), .inl (cI, 2, .inl (fun _ => 0))), ((p4 18), .inl (cI, 2, .inl (fun _ => 0)))] H := hP
    have hD : va_D A [(p0, .inr (7, oM p4 i7 j7)), ((p4 14), .inl (cI, 2, .inl (fun _ => 0))), ((p4 18), .inl (cI, 2, .inl (fun _ => 0)))] := hD
    refine lv_if_eq (tgt := 37) hx hb dX7_letter_25 (by decide) (fun _ => ?_) (fun q9 => absurd q9 (by decide +kernel))
    refine lv_iconst (v := (-1)) hx hb dX7_letter_37 (by decide +kernel) ?_
    exact k_ri B hP hD hS dX7_letter_38 () [0, 1, 2] rfl rfl rfl (Nat.le_of_ble_eq_true rfl) (Nat.le_of_ble_eq_true rfl) rfl
  · exact False.elim hw
set_option maxHeartbeats 4000000 in
set_option maxRecDepth 100000 in
theorem c_X6_thing_v0 (l : Launch) (dC : Nat → ClassId) (dI : Nat → Nat → Nat) (cI cJ cZ cM : ClassId) (p0 : Nat) (p1 : Int32) (p2 : Int32) (p3 : Nat → Nat)   : k_Mi l yX6_thing wsX6_thing ({ frames := 2, cells := 0, slots := 0, locals := 61 }) (dC, dI) vwCl (tyy cI cJ cZ cM) [(p0, .inr (6, [.ref (p3 0), .int 0, .ref (p3 1), .ref (p3 14), .ref (p3 27), .ref (p3 28), .ref (p3 29), .ref (p3 30), .ref (p3 54), .null, .int 1, .int 1, .int 999, .ref (p3 61), .ref (p3 62), .ref (p3 63), .ref (p3 60)])), ((p3 1), .inr (5, [.ref (p3 2), .ref (p3 3), .ref (p3 4), .ref (p3 5), .ref (p3 6), .ref (p3 7), .ref (p3 8), .ref (p3 9), .ref (p3 10), .ref (p3 11), .ref (p3 12), .ref (p3 13), .int 0, .int 0, .int 0, .int 0, .int 0, .int 100, .int 0, .int 0]))] [.ref p0, .int p1, .int p2] 0 0 (fun (u9 : Unit) => [(p0, .inr (6, [.ref (p3 0), .int 0, .ref (p3 1), .ref (p3 14), .ref (p3 27), .ref (p3 28), .ref (p3 29), .ref (p3 30), .ref (p3 54), .null, .int 1, .int 1, .int 999, .ref (p3 61), .ref (p3 62), .ref (p3 63), .ref (p3 60)])), ((p3 1), .inr (5, [.ref (p3 2), .ref (p3 3), .ref (p3 4), .ref (p3 5), .ref (p3 6), .ref (p3 7), .ref (p3 8), .ref (p3 9), .ref (p3 10), .ref (p3 11), .ref (p3 12), .ref (p3 13), .int 0, .int 0, .int 0, .int 0, .int 0, .int 100, .int 0, .int 0]))]) (fun (r9 : Int32) (u9 : Unit) => r9 = (-1)) := by
  refine fun sz => k_enter (cc := cX6_thing) (maxL := 3) (ret := some (.int)) (Qc := fun A => va_Qi (fun (r9 : Int32) (u9 : Unit) => r9 = (-1)) (fun u => k_B (dC, dI) vwCl (tyy cI cJ cZ cM) A ((fun (u9 : Unit) => [(p0, .inr (6, [.ref (p3 0), .int 0, .ref (p3 1), .ref (p3 14), .ref (p3 27), .ref (p3 28), .ref (p3 29), .ref (p3 30), .ref (p3 54), .null, .int 1, .int 1, .int 999, .ref (p3 61), .ref (p3 62), .ref (p3 63), .ref (p3 60)])), ((p3 1), .inr (5, [.ref (p3 2), .ref (p3 3), .ref (p3 4), .ref (p3 5), .ref (p3 6), .ref (p3 7), .ref (p3 8), .ref (p3 9), .ref (p3 10), .ref (p3 11), .ref (p3 12), .ref (p3 13), .int 0, .int 0, .int 0, .int 0, .int 0, .int 100, .int 0, .int 0]))]) u)) A) sz (by decide +kernel) rfl (Nat.le_of_ble_eq_true rfl) (fun p e s m args below meth c A ls H locs B hP hD hS hl => ?_)
  obtain ⟨hx, hb, hml, hown, hts, hr, hlk, hnm, hK, hA, hN, hC⟩ := id B
  have hown : s.vm.findClass RX6 = some m.cls := hown
  have hl : lv_has ls 3 [(0, .ref p0), (1, .int p1), (2, .int p2)] := hl
  refine lv_aload_n hx hb dX6_thing_0 rfl (lv_at hl 0 rfl) ?_
  refine lv_iload_n hx hb dX6_thing_1 rfl (lv_at hl 1 rfl) ?_
  refine k_ci (wc := [(p0, .inr (6, [.ref (p3 0), .int 0, .ref (p3 1), .ref (p3 14), .ref (p3 27), .ref (p3 28), .ref (p3 29), .ref (p3 30), .ref (p3 54), .null, .int 1, .int 1, .int 999, .ref (p3 61), .ref (p3 62), .ref (p3 63), .ref (p3 60)])), ((p3 1), .inr (5, [.ref (p3 2), .ref (p3 3), .ref (p3 4), .ref (p3 5), .ref (p3 6), .ref (p3 7), .ref (p3 8), .ref (p3 9), .ref (p3 10), .ref (p3 11), .ref (p3 12), .ref (p3 13), .int 0, .int 0, .int 0, .int 0, .int 0, .int 100, .int 0, .int 0]))]) (wr := []) (fun hPc hDc hFc => va_runV (As := [.int p1]) (rest := []) ⟨hx, hb, hml, hown, hts⟩ (c_X6_isThing_v0 l dC dI cI cJ cZ cM p0 p1 p3 H.size) (cwV 1 hts gX6_thing_X6_isThing rfl rfl rfl (by decide +kernel) ⟨(Nat.le_of_ble_eq_true rfl), (Nat.le_of_ble_eq_true rfl)⟩) (k_pV hPc hDc hK hN hC hS hFc hP (q0 := 0) (ci := 6) rfl rfl) rfl rfl hl.1 rfl (lv_room (Nat.le_of_ble_eq_true rfl)) dX6_thing_2 ⟨(Nat.le_of_ble_eq_true rfl), (Nat.le_of_ble_eq_true rfl)⟩) hP hD hS hA [0, 1] [] rfl rfl rfl rfl (by decide) (fun _ => rfl) 0 0 rfl rfl (fun r_1 u_2 H locs hw hP hD hS => ?_)
  obtain rfl : r_1 = 0 := hw
  have hP : va_P (dC, dI) vwCl [(p0, .inr (6, [.ref (p3 0), .int 0, .ref (p3 1), .ref (p3 14), .ref (p3 27), .ref (p3 28), .ref (p3 29), .ref (p3 30), .ref (p3 54), .null, .int 1, .int 1, .int 999, .ref (p3 61), .ref (p3 62), .ref (p3 63), .ref (p3 60)])), ((p3 1), .inr (5, [.ref (p3 2), .ref (p3 3), .ref (p3 4), .ref (p3 5), .ref (p3 6), .ref (p3 7), .ref (p3 8), .ref (p3 9), .ref (p3 10), .ref (p3 11), .ref (p3 12), .ref (p3 13), .int 0, .int 0, .int 0, .int 0, .int 0, .int 100, .int 0, .int 0]))] H := hP
  have hD : va_D A [(p0, .inr (6, [.ref (p3 0), .int 0, .ref (p3 1), .ref (p3 14), .ref (p3 27), .ref (p3 28), .ref (p3 29), .ref (p3 30), .ref (p3 54), .null, .int 1, .int 1, .int 999, .ref (p3 61), .ref (p3 62), .ref (p3 63), .ref (p3 60)])), ((p3 1), .inr (5, [.ref (p3 2), .ref (p3 3), .ref (p3 4), .ref (p3 5), .ref (p3 6), .ref (p3 7), .ref (p3 8), .ref (p3 9), .ref (p3 10), .ref (p3 11), .ref (p3 12), .ref (p3 13), .int 0, .int 0, .int 0, .int 0, .int 0, .int 100, .int 0, .int 0]))] := hD
  refine lv_if_ne (tgt := 10) hx hb dX6_thing_5 (by decide) (fun q9 => absurd q9 (by decide +kernel)) (fun _ => ?_)
  refine lv_iconst (v := (-1)) hx hb dX6_thing_8 (by decide +kernel) ?_
  exact k_ri B hP hD hS dX6_thing_9 () [0, 1] rfl rfl rfl (Nat.le_of_ble_eq_true rfl) (Nat.le_of_ble_eq_true rfl) rfl
set_option maxHeartbeats 4000000 in
set_option maxRecDepth 100000 in
theorem c_X7_isThing_v0 (l : Launch) (dC : Nat → ClassId) (dI : Nat → Nat → Nat) (cI cJ cZ cM : ClassId) (p0 : Nat) (p1 : Int32) (p2 : Nat → Nat)   : k_Mi l yX7_isThing wsX7_isThing ({ frames := 1, cells := 0, slots := 0, locals := 40 }) (dC, dI) vwCl (tyy cI cJ cZ cM) [(p0, .inr (7, oM p2 i7 j7)), ((p2 14), .inl (cI, 2, .inl (fun _ => 0)))] [.ref p0, .int p1] 0 0 (fun (u9 : Unit) => [(p0, .inr (7, oM p2 i7 j7)), ((p2 14), .inl (cI, 2, .inl (fun _ => 0)))]) (fun (r9 : Int32) (u9 : Unit) => r9 = 0) := by
  refine fun sz => k_enter (cc := cX7_isThing) (maxL := 2) (ret := some (.boolean)) (Qc := fun A => va_Qi (fun (r9 : Int32) (u9 : Unit) => r9 = 0) (fun u => k_B (dC, dI) vwCl (tyy cI cJ cZ cM) A ((fun (u9 : Unit) => [(p0, .inr (7, oM p2 i7 j7)), ((p2 14), .inl (cI, 2, .inl (fun _ => 0)))]) u)) A) sz (by decide +kernel) rfl (Nat.le_of_ble_eq_true rfl) (fun p e s m args below meth c A ls H locs B hP hD hS hl => ?_)
  obtain ⟨hx, hb, hml, hown, hts, hr, hlk, hnm, hK, hA, hN, hC⟩ := id B
  have hown : s.vm.findClass RX7 = some m.cls := hown
  have hl : lv_has ls 2 [(0, .ref p0), (1, .int p1)] := hl
  have w_0 : (Cond.fieldLink RX7 54 "WishSeaModel" "things" "[I").before args s = true := hts _ (List.mem_of_getElem? (i := 1) rfl)
  have w_1 : (Cond.fieldLink RX7 51 "WishSeaModel" "bank" "I").before args s = true := hts _ (List.mem_of_getElem? (i := 2) rfl)
  have hinX7 : ∀ w ∈ u_ws RX7 TX7 92, w ∈ wsX7_isThing := fun _ h => List.mem_cons_of_mem _ (List.mem_append_right _ h)
  refine lv_iload_n hx hb dX7_isThing_0 rfl (lv_at hl 1 rfl) ?_
  refine lv_if_lt (tgt := 21) hx hb dX7_isThing_1 (by decide) (fun c_1 => ?_) (fun c_1 => ?_)
  · have c_1 : p1.toInt < 0 := k_ltT rfl (by decide +kernel) c_1
    refine lv_iconst (v := 0) hx hb dX7_isThing_21 (by decide +kernel) ?_
    exact k_ri B hP hD hS dX7_isThing_22 () [0, 1] rfl rfl rfl (Nat.le_of_ble_eq_true rfl) (Nat.le_of_ble_eq_true rfl) rfl
  · have c_1 : 0 ≤ p1.toInt := k_ltF rfl (by decide +kernel) c_1
    refine lv_iload_n hx hb dX7_isThing_4 rfl (lv_at hl 1 rfl) ?_
    refine lv_aload_n hx hb dX7_isThing_5 rfl (lv_at hl 0 rfl) ?_
    refine k_get (D := (dC, dI)) (ci := 7) (v := .ref (p2 14)) (C := RX7) (T := TX7) (N := 92) hx hb hts hinX7 hown hK hP 0 rfl rfl 14 (by decide) w_0 rfl rfl dX7_isThing_6 ?_
    refine lv_aload_n hx hb dX7_isThing_9 rfl (lv_at hl 0 rfl) ?_
    refine k_get (D := (dC, dI)) (ci := 7) (v := .int 0) (C := RX7) (T := TX7) (N := 92) hx hb hts hinX7 hown hK hP 0 rfl rfl 13 (by decide) w_1 rfl rfl dX7_isThing_10 ?_
    refine k_iald (v := 0) hx hb hK hP 1 0 0 rfl rfl rfl (Nat.le_of_ble_eq_true rfl) (Nat.le_of_ble_eq_true rfl) rfl dX7_isThing_13 ?_
    refine lv_icmp_ge (tgt := 21) hx hb dX7_isThing_14 (by decide) (fun c_2 => ?_) (fun c_2 => ?_)
    · have c_2 : 0 ≤ p1.toInt := k_leT (by decide +kernel) rfl c_2
      refine lv_iconst (v := 0) hx hb dX7_isThing_21 (by decide +kernel) ?_
      exact k_ri B hP hD hS dX7_isThing_22 () [0, 1] rfl rfl rfl (Nat.le_of_ble_eq_true rfl) (Nat.le_of_ble_eq_true rfl) rfl
    · have c_2 : p1.toInt < 0 := k_leF (by decide +kernel) rfl c_2
      exfalso; omega
set_option maxHeartbeats 4000000 in
set_option maxRecDepth 100000 in
theorem c_X7_thing_v0 (l : Launch) (dC : Nat → ClassId) (dI : Nat → Nat → Nat) (cI cJ cZ cM : ClassId) (p0 : Nat) (p1 : Int32) (p2 : Int32) (p3 : Nat → Nat)   : k_Mi l yX7_thing wsX7_thing ({ frames := 2, cells := 0, slots := 0, locals := 61 }) (dC, dI) vwCl (tyy cI cJ cZ cM) [(p0, .inr (7, oM p3 i7 j7)), ((p3 14), .inl (cI, 2, .inl (fun _ => 0)))] [.ref p0, .int p1, .int p2] 0 0 (fun (u9 : Unit) => [(p0, .inr (7, oM p3 i7 j7)), ((p3 14), .inl (cI, 2, .inl (fun _ => 0)))]) (fun (r9 : Int32) (u9 : Unit) => r9 = (-1)) := by
  refine fun sz => k_enter (cc := cX7_thing) (maxL := 5) (ret := some (.int)) (Qc := fun A => va_Qi (fun (r9 : Int32) (u9 : Unit) => r9 = (-1)) (fun u => k_B (dC, dI) vwCl (tyy cI cJ cZ cM) A ((fun (u9 : Unit) => [(p0, .inr (7, oM p3 i7 j7)), ((p3 14), .inl (cI, 2, .inl (fun _ => 0)))]) u)) A) sz (by decide +kernel) rfl (Nat.le_of_ble_eq_true rfl) (fun p e s m args below meth c A ls H locs B hP hD hS hl => ?_)
  obtain ⟨hx, hb, hml, hown, hts, hr, hlk, hnm, hK, hA, hN, hC⟩ := id B
  have hown : s.vm.findClass RX7 = some m.cls := hown
  have hl : lv_has ls 5 [(0, .ref p0), (1, .int p1), (2, .int p2)] := hl
  refine lv_aload_n hx hb dX7_thing_0 rfl (lv_at hl 0 rfl) ?_
  refine lv_iload_n hx hb dX7_thing_1 rfl (lv_at hl 1 rfl) ?_
  refine k_ci (wc := [(p0, .inr (7, oM p3 i7 j7)), ((p3 14), .inl (cI, 2, .inl (fun _ => 0)))]) (wr := []) (fun hPc hDc hFc => va_runV (As := [.int p1]) (rest := []) ⟨hx, hb, hml, hown, hts⟩ (c_X7_isThing_v0 l dC dI cI cJ cZ cM p0 p1 p3 H.size) (cwV 1 hts gX7_thing_X7_isThing rfl rfl rfl (by decide +kernel) ⟨(Nat.le_of_ble_eq_true rfl), (Nat.le_of_ble_eq_true rfl)⟩) (k_pV hPc hDc hK hN hC hS hFc hP (q0 := 0) (ci := 7) rfl rfl) rfl rfl hl.1 rfl (lv_room (Nat.le_of_ble_eq_true rfl)) dX7_thing_2 ⟨(Nat.le_of_ble_eq_true rfl), (Nat.le_of_ble_eq_true rfl)⟩) hP hD hS hA [0, 1] [] rfl rfl rfl rfl (by decide) (fun _ => rfl) 0 0 rfl rfl (fun r_1 u_2 H locs hw hP hD hS => ?_)
  obtain rfl : r_1 = 0 := hw
  have hP : va_P (dC, dI) vwCl [(p0, .inr (7, oM p3 i7 j7)), ((p3 14), .inl (cI, 2, .inl (fun _ => 0)))] H := hP
  have hD : va_D A [(p0, .inr (7, oM p3 i7 j7)), ((p3 14), .inl (cI, 2, .inl (fun _ => 0)))] := hD
  refine lv_if_ne (tgt := 10) hx hb dX7_thing_5 (by decide) (fun q9 => absurd q9 (by decide +kernel)) (fun _ => ?_)
  refine lv_iconst (v := (-1)) hx hb dX7_thing_8 (by decide +kernel) ?_
  exact k_ri B hP hD hS dX7_thing_9 () [0, 1] rfl rfl rfl (Nat.le_of_ble_eq_true rfl) (Nat.le_of_ble_eq_true rfl) rfl
set_option maxHeartbeats 4000000 in
set_option maxRecDepth 100000 in
theorem c_X6_wish_v0 (l : Launch) (dC : Nat → ClassId) (dI : Nat → Nat → Nat) (cI cJ cZ cM : ClassId) (p0 : Nat) (p1 : Int32) (p2 : Int32) (p3 : Nat → Nat)   : k_Mi l yX6_wish wsX6_wish ({ frames := 2, cells := 0, slots := 0, locals := 61 }) (dC, dI) vwCl (tyy cI cJ cZ cM) [(p0, .inr (6, [.ref (p3 0), .int 0, .ref (p3 1), .ref (p3 14), .ref (p3 27), .ref (p3 28), .ref (p3 29), .ref (p3 30), .ref (p3 54), .null, .int 1, .int 1, .int 999, .ref (p3 61), .ref (p3 62), .ref (p3 63), .ref (p3 60)])), ((p3 1), .inr (5, [.ref (p3 2), .ref (p3 3), .ref (p3 4), .ref (p3 5), .ref (p3 6), .ref (p3 7), .ref (p3 8), .ref (p3 9), .ref (p3 10), .ref (p3 11), .ref (p3 12), .ref (p3 13), .int 0, .int 0, .int 0, .int 0, .int 0, .int 100, .int 0, .int 0]))] [.ref p0, .int p1, .int p2] 0 0 (fun (u9 : Unit) => [(p0, .inr (6, [.ref (p3 0), .int 0, .ref (p3 1), .ref (p3 14), .ref (p3 27), .ref (p3 28), .ref (p3 29), .ref (p3 30), .ref (p3 54), .null, .int 1, .int 1, .int 999, .ref (p3 61), .ref (p3 62), .ref (p3 63), .ref (p3 60)])), ((p3 1), .inr (5, [.ref (p3 2), .ref (p3 3), .ref (p3 4), .ref (p3 5), .ref (p3 6), .ref (p3 7), .ref (p3 8), .ref (p3 9), .ref (p3 10), .ref (p3 11), .ref (p3 12), .ref (p3 13), .int 0, .int 0, .int 0, .int 0, .int 0, .int 100, .int 0, .int 0]))]) (fun (r9 : Int32) (u9 : Unit) => r9 = (-1)) := by
  refine fun sz => k_enter (cc := cX6_wish) (maxL := 3) (ret := some (.int)) (Qc := fun A => va_Qi (fun (r9 : Int32) (u9 : Unit) => r9 = (-1)) (fun u => k_B (dC, dI) vwCl (tyy cI cJ cZ cM) A ((fun (u9 : Unit) => [(p0, .inr (6, [.ref (p3 0), .int 0, .ref (p3 1), .ref (p3 14), .ref (p3 27), .ref (p3 28), .ref (p3 29), .ref (p3 30), .ref (p3 54), .null, .int 1, .int 1, .int 999, .ref (p3 61), .ref (p3 62), .ref (p3 63), .ref (p3 60)])), ((p3 1), .inr (5, [.ref (p3 2), .ref (p3 3), .ref (p3 4), .ref (p3 5), .ref (p3 6), .ref (p3 7), .ref (p3 8), .ref (p3 9), .ref (p3 10), .ref (p3 11), .ref (p3 12), .ref (p3 13), .int 0, .int 0, .int 0, .int 0, .int 0, .int 100, .int 0, .int 0]))]) u)) A) sz (by decide +kernel) rfl (Nat.le_of_ble_eq_true rfl) (fun p e s m args below meth c A ls H locs B hP hD hS hl => ?_)
  obtain ⟨hx, hb, hml, hown, hts, hr, hlk, hnm, hK, hA, hN, hC⟩ := id B
  have hown : s.vm.findClass RX6 = some m.cls := hown
  have hl : lv_has ls 3 [(0, .ref p0), (1, .int p1), (2, .int p2)] := hl
  refine lv_aload_n hx hb dX6_wish_0 rfl (lv_at hl 0 rfl) ?_
  refine lv_iload_n hx hb dX6_wish_1 rfl (lv_at hl 1 rfl) ?_
  refine k_ci (wc := [(p0, .inr (6, [.ref (p3 0), .int 0, .ref (p3 1), .ref (p3 14), .ref (p3 27), .ref (p3 28), .ref (p3 29), .ref (p3 30), .ref (p3 54), .null, .int 1, .int 1, .int 999, .ref (p3 61), .ref (p3 62), .ref (p3 63), .ref (p3 60)])), ((p3 1), .inr (5, [.ref (p3 2), .ref (p3 3), .ref (p3 4), .ref (p3 5), .ref (p3 6), .ref (p3 7), .ref (p3 8), .ref (p3 9), .ref (p3 10), .ref (p3 11), .ref (p3 12), .ref (p3 13), .int 0, .int 0, .int 0, .int 0, .int 0, .int 100, .int 0, .int 0]))]) (wr := []) (fun hPc hDc hFc => va_runV (As := [.int p1]) (rest := []) ⟨hx, hb, hml, hown, hts⟩ (c_X6_isWish_v0 l dC dI cI cJ cZ cM p0 p1 p3 H.size) (cwV 1 hts gX6_wish_X6_isWish rfl rfl rfl (by decide +kernel) ⟨(Nat.le_of_ble_eq_true rfl), (Nat.le_of_ble_eq_true rfl)⟩) (k_pV hPc hDc hK hN hC hS hFc hP (q0 := 0) (ci := 6) rfl rfl) rfl rfl hl.1 rfl (lv_room (Nat.le_of_ble_eq_true rfl)) dX6_wish_2 ⟨(Nat.le_of_ble_eq_true rfl), (Nat.le_of_ble_eq_true rfl)⟩) hP hD hS hA [0, 1] [] rfl rfl rfl rfl (by decide) (fun _ => rfl) 0 0 rfl rfl (fun r_1 u_2 H locs hw hP hD hS => ?_)
  obtain rfl : r_1 = 0 := hw
  have hP : va_P (dC, dI) vwCl [(p0, .inr (6, [.ref (p3 0), .int 0, .ref (p3 1), .ref (p3 14), .ref (p3 27), .ref (p3 28), .ref (p3 29), .ref (p3 30), .ref (p3 54), .null, .int 1, .int 1, .int 999, .ref (p3 61), .ref (p3 62), .ref (p3 63), .ref (p3 60)])), ((p3 1), .inr (5, [.ref (p3 2), .ref (p3 3), .ref (p3 4), .ref (p3 5), .ref (p3 6), .ref (p3 7), .ref (p3 8), .ref (p3 9), .ref (p3 10), .ref (p3 11), .ref (p3 12), .ref (p3 13), .int 0, .int 0, .int 0, .int 0, .int 0, .int 100, .int 0, .int 0]))] H := hP
  have hD : va_D A [(p0, .inr (6, [.ref (p3 0), .int 0, .ref (p3 1), .ref (p3 14), .ref (p3 27), .ref (p3 28), .ref (p3 29), .ref (p3 30), .ref (p3 54), .null, .int 1, .int 1, .int 999, .ref (p3 61), .ref (p3 62), .ref (p3 63), .ref (p3 60)])), ((p3 1), .inr (5, [.ref (p3 2), .ref (p3 3), .ref (p3 4), .ref (p3 5), .ref (p3 6), .ref (p3 7), .ref (p3 8), .ref (p3 9), .ref (p3 10), .ref (p3 11), .ref (p3 12), .ref (p3 13), .int 0, .int 0, .int 0, .int 0, .int 0, .int 100, .int 0, .int 0]))] := hD
  refine lv_if_ne (tgt := 10) hx hb dX6_wish_5 (by decide) (fun q9 => absurd q9 (by decide +kernel)) (fun _ => ?_)
  refine lv_iconst (v := (-1)) hx hb dX6_wish_8 (by decide +kernel) ?_
  exact k_ri B hP hD hS dX6_wish_9 () [0, 1] rfl rfl rfl (Nat.le_of_ble_eq_true rfl) (Nat.le_of_ble_eq_true rfl) rfl
