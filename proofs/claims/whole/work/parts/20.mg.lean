set_option maxHeartbeats 4000000 in
set_option maxRecDepth 100000 in
theorem c_X7_asks_v1 (l : Launch) (dC : Nat → ClassId) (dI : Nat → Nat → Nat) (cI cJ cZ cM : ClassId) (p0 : Nat) (p1 : Nat → Nat)   : k_Mv l yX7_asks wsX7_asks ({ frames := 1, cells := 0, slots := 0, locals := 40 }) (dC, dI) vwCl (tyy cI cJ cZ cM) [(p0, .inr (7, oM p1 (upd i7 75 (-1)) j7))] [.ref p0, .int 0, .int 0, .int 0, .int 0] 0 0 (fun (u9 : Unit) => [(p0, .inr (7, oM p1 (upd (upd (upd (upd (upd i7 62 0) 63 0) 64 0) 65 0) 75 (-1)) j7))]) (fun (u9 : Unit) => True) := by
  refine fun sz => k_enter (cc := cX7_asks) (maxL := 5) (ret := none) (Qc := fun A => va_Qv (fun (u9 : Unit) => True) (fun u => k_B (dC, dI) vwCl (tyy cI cJ cZ cM) A ((fun (u9 : Unit) => [(p0, .inr (7, oM p1 (upd (upd (upd (upd (upd i7 62 0) 63 0) 64 0) 65 0) 75 (-1)) j7))]) u)) A) sz (by decide +kernel) rfl (Nat.le_of_ble_eq_true rfl) (fun p e s m args below meth c A ls H B hP hD hS hl => ?_)
  obtain ⟨hx, hb, hml, hown, hts, hr, hlk, hnm, hK, hA, hN⟩ := id B
  have hown : s.vm.findClass RX7 = some m.cls := hown
  have hl : lv_has ls 5 [(0, .ref p0), (1, .int 0), (2, .int 0), (3, .int 0), (4, .int 0)] := hl
  have w_0 : (Cond.fieldLink RX7 201 "WishSeaModel" "askedHad" "I").before args s = true := hts _ (List.mem_of_getElem? (i := 1) rfl)
  have w_1 : (Cond.fieldLink RX7 204 "WishSeaModel" "askedSea" "I").before args s = true := hts _ (List.mem_of_getElem? (i := 2) rfl)
  have w_2 : (Cond.fieldLink RX7 207 "WishSeaModel" "askedSaid" "I").before args s = true := hts _ (List.mem_of_getElem? (i := 3) rfl)
  have w_3 : (Cond.fieldLink RX7 210 "WishSeaModel" "askedDay" "I").before args s = true := hts _ (List.mem_of_getElem? (i := 4) rfl)
  have hinX7 : ∀ w ∈ u_ws RX7 TX7 92, w ∈ wsX7_asks := fun _ h => List.mem_cons_of_mem _ (List.mem_append_right _ h)
  refine lv_aload_n hx hb dX7_asks_0 rfl (lv_at hl 0 rfl) ?_
  refine lv_iload_n hx hb dX7_asks_1 rfl (lv_at hl 1 rfl) ?_
  refine k_put (D := (dC, dI)) (ci := 7) (v := .int 0) (C := RX7) (T := TX7) (N := 92) (ws' := [(p0, .inr (7, oM p1 (upd (upd i7 62 0) 75 (-1)) j7))]) hx hb hts hinX7 tyX7 tyX7_ok nmX7 hown hK hP hD hS 0 rfl rfl 62 (by decide) w_0 rfl rfl rfl rfl (Nat.le_of_ble_eq_true rfl) rfl dX7_asks_2 (fun H locs hP hD hS => ?_)
  refine lv_aload_n hx hb dX7_asks_5 rfl (lv_at hl 0 rfl) ?_
  refine lv_iload_n hx hb dX7_asks_6 rfl (lv_at hl 2 rfl) ?_
  refine k_put (D := (dC, dI)) (ci := 7) (v := .int 0) (C := RX7) (T := TX7) (N := 92) (ws' := [(p0, .inr (7, oM p1 (upd (upd (upd i7 62 0) 63 0) 75 (-1)) j7))]) hx hb hts hinX7 tyX7 tyX7_ok nmX7 hown hK hP hD hS 0 rfl rfl 63 (by decide) w_1 rfl rfl rfl rfl (Nat.le_of_ble_eq_true rfl) rfl dX7_asks_7 (fun H locs hP hD hS => ?_)
  refine lv_aload_n hx hb dX7_asks_10 rfl (lv_at hl 0 rfl) ?_
  refine lv_iload_n hx hb dX7_asks_11 rfl (lv_at hl 3 rfl) ?_
  refine k_put (D := (dC, dI)) (ci := 7) (v := .int 0) (C := RX7) (T := TX7) (N := 92) (ws' := [(p0, .inr (7, oM p1 (upd (upd (upd (upd i7 62 0) 63 0) 64 0) 75 (-1)) j7))]) hx hb hts hinX7 tyX7 tyX7_ok nmX7 hown hK hP hD hS 0 rfl rfl 64 (by decide) w_2 rfl rfl rfl rfl (Nat.le_of_ble_eq_true rfl) rfl dX7_asks_12 (fun H locs hP hD hS => ?_)
  refine lv_aload_n hx hb dX7_asks_15 rfl (lv_at hl 0 rfl) ?_
  refine lv_iload hx hb dX7_asks_16 (lv_at hl 4 rfl) ?_
  refine k_put (D := (dC, dI)) (ci := 7) (v := .int 0) (C := RX7) (T := TX7) (N := 92) (ws' := [(p0, .inr (7, oM p1 (upd (upd (upd (upd (upd i7 62 0) 63 0) 64 0) 65 0) 75 (-1)) j7))]) hx hb hts hinX7 tyX7 tyX7_ok nmX7 hown hK hP hD hS 0 rfl rfl 65 (by decide) w_3 rfl rfl rfl rfl (Nat.le_of_ble_eq_true rfl) rfl dX7_asks_18 (fun H locs hP hD hS => ?_)
  exact k_rv B hP hD hS dX7_asks_21 () [0] rfl rfl (Nat.le_of_ble_eq_true rfl) (Nat.le_of_ble_eq_true rfl) trivial
set_option maxHeartbeats 4000000 in
set_option maxRecDepth 100000 in
theorem c_X7_isContent_v1 (l : Launch) (dC : Nat → ClassId) (dI : Nat → Nat → Nat) (cI cJ cZ cM : ClassId) (p0 : Nat) (p1 : Nat → Nat)   : k_Mi l yX7_isContent wsX7_isContent ({ frames := 1, cells := 0, slots := 0, locals := 40 }) (dC, dI) vwCl (tyy cI cJ cZ cM) [(p0, .inr (7, oM p1 (upd (upd (upd (upd (upd i7 62 0) 63 0) 64 0) 65 0) 75 (-1)) j7)), ((p1 28), .inl (cI, 2, .inl (upd (fun _ => 0) 0 (-1))))] [.ref p0] 0 0 (fun (u9 : Unit) => [(p0, .inr (7, oM p1 (upd (upd (upd (upd (upd (upd i7 62 0) 63 0) 64 0) 65 0) 66 (-1)) 75 (-1)) j7)), ((p1 28), .inl (cI, 2, .inl (upd (fun _ => 0) 0 (-1))))]) (fun (r9 : Int32) (u9 : Unit) => r9 = 0) := by
  refine fun sz => k_enter (cc := cX7_isContent) (maxL := 1) (ret := some (.boolean)) (Qc := fun A => va_Qi (fun (r9 : Int32) (u9 : Unit) => r9 = 0) (fun u => k_B (dC, dI) vwCl (tyy cI cJ cZ cM) A ((fun (u9 : Unit) => [(p0, .inr (7, oM p1 (upd (upd (upd (upd (upd (upd i7 62 0) 63 0) 64 0) 65 0) 66 (-1)) 75 (-1)) j7)), ((p1 28), .inl (cI, 2, .inl (upd (fun _ => 0) 0 (-1))))]) u)) A) sz (by decide +kernel) rfl (Nat.le_of_ble_eq_true rfl) (fun p e s m args below meth c A ls H B hP hD hS hl => ?_)
  obtain ⟨hx, hb, hml, hown, hts, hr, hlk, hnm, hK, hA, hN⟩ := id B
  have hown : s.vm.findClass RX7 = some m.cls := hown
  have hl : lv_has ls 1 [(0, .ref p0)] := hl
  have w_0 : (Cond.fieldLink RX7 213 "WishSeaModel" "askedWish" "I").before args s = true := hts _ (List.mem_of_getElem? (i := 1) rfl)
  have w_1 : (Cond.fieldLink RX7 96 "WishSeaModel" "contentFrom" "[I").before args s = true := hts _ (List.mem_of_getElem? (i := 2) rfl)
  have w_2 : (Cond.fieldLink RX7 51 "WishSeaModel" "bank" "I").before args s = true := hts _ (List.mem_of_getElem? (i := 3) rfl)
  have hinX7 : ∀ w ∈ u_ws RX7 TX7 92, w ∈ wsX7_isContent := fun _ h => List.mem_cons_of_mem _ (List.mem_append_right _ h)
  refine lv_aload_n hx hb dX7_isContent_0 rfl (lv_at hl 0 rfl) ?_
  refine lv_iconst (v := (-1)) hx hb dX7_isContent_1 (by decide +kernel) ?_
  refine k_put (D := (dC, dI)) (ci := 7) (v := .int (-1)) (C := RX7) (T := TX7) (N := 92) (ws' := [(p0, .inr (7, oM p1 (upd (upd (upd (upd (upd (upd i7 62 0) 63 0) 64 0) 65 0) 66 (-1)) 75 (-1)) j7)), ((p1 28), .inl (cI, 2, .inl (upd (fun _ => 0) 0 (-1))))]) hx hb hts hinX7 tyX7 tyX7_ok nmX7 hown hK hP hD hS 0 rfl rfl 66 (by decide) w_0 rfl rfl rfl rfl (Nat.le_of_ble_eq_true rfl) rfl dX7_isContent_2 (fun H locs hP hD hS => ?_)
  refine lv_aload_n hx hb dX7_isContent_5 rfl (lv_at hl 0 rfl) ?_
  refine k_get (D := (dC, dI)) (ci := 7) (v := .ref (p1 28)) (C := RX7) (T := TX7) (N := 92) hx hb hts hinX7 hown hK hP 0 rfl rfl 28 (by decide) w_1 rfl rfl dX7_isContent_6 ?_
  refine lv_aload_n hx hb dX7_isContent_9 rfl (lv_at hl 0 rfl) ?_
  refine k_get (D := (dC, dI)) (ci := 7) (v := .int 0) (C := RX7) (T := TX7) (N := 92) hx hb hts hinX7 hown hK hP 0 rfl rfl 13 (by decide) w_2 rfl rfl dX7_isContent_10 ?_
  refine k_iald (v := (-1)) hx hb hK hP 1 0 0 rfl rfl rfl (Nat.le_of_ble_eq_true rfl) (Nat.le_of_ble_eq_true rfl) rfl dX7_isContent_13 ?_
  refine lv_iconst (v := (-1)) hx hb dX7_isContent_14 (by decide +kernel) ?_
  refine lv_icmp_eq (tgt := 49) hx hb dX7_isContent_15 (by decide) (fun _ => ?_) (fun q9 => absurd q9 (by decide +kernel))
  refine lv_iconst (v := 0) hx hb dX7_isContent_49 (by decide +kernel) ?_
  exact k_ri B hP hD hS dX7_isContent_50 () [0, 1] rfl rfl rfl (Nat.le_of_ble_eq_true rfl) (Nat.le_of_ble_eq_true rfl) rfl
set_option maxHeartbeats 4000000 in
set_option maxRecDepth 100000 in
theorem c_X7_isContentOn_v0 (l : Launch) (dC : Nat → ClassId) (dI : Nat → Nat → Nat) (cI cJ cZ cM : ClassId) (p0 : Nat) (p1 : Nat → Nat)   : k_Mi l yX7_isContentOn wsX7_isContentOn ({ frames := 2, cells := 0, slots := 0, locals := 64 }) (dC, dI) vwCl (tyy cI cJ cZ cM) [(p0, .inr (7, oM p1 (upd i7 75 (-1)) j7)), ((p1 72), .inl (cI, 9216, .inl (upd (fun _ => (-1)) 0 0))), ((p1 51), .inl (cI, 22, .inl (fun _ => 0))), ((p1 52), .inl (cI, 22, .inl (fun _ => 0))), ((p1 28), .inl (cI, 2, .inl (upd (fun _ => 0) 0 (-1))))] [.ref p0, .int 0, .int 0] 0 0 (fun (u9 : Unit) => [(p0, .inr (7, oM p1 (upd (upd (upd (upd (upd (upd i7 62 0) 63 0) 64 0) 65 0) 66 (-1)) 75 (-1)) j7)), ((p1 72), .inl (cI, 9216, .inl (upd (fun _ => (-1)) 0 0))), ((p1 51), .inl (cI, 22, .inl (fun _ => 0))), ((p1 52), .inl (cI, 22, .inl (fun _ => 0))), ((p1 28), .inl (cI, 2, .inl (upd (fun _ => 0) 0 (-1))))]) (fun (r9 : Int32) (u9 : Unit) => r9 = 0) := by
  refine fun sz => k_enter (cc := cX7_isContentOn) (maxL := 3) (ret := some (.boolean)) (Qc := fun A => va_Qi (fun (r9 : Int32) (u9 : Unit) => r9 = 0) (fun u => k_B (dC, dI) vwCl (tyy cI cJ cZ cM) A ((fun (u9 : Unit) => [(p0, .inr (7, oM p1 (upd (upd (upd (upd (upd (upd i7 62 0) 63 0) 64 0) 65 0) 66 (-1)) 75 (-1)) j7)), ((p1 72), .inl (cI, 9216, .inl (upd (fun _ => (-1)) 0 0))), ((p1 51), .inl (cI, 22, .inl (fun _ => 0))), ((p1 52), .inl (cI, 22, .inl (fun _ => 0))), ((p1 28), .inl (cI, 2, .inl (upd (fun _ => 0) 0 (-1))))]) u)) A) sz (by decide +kernel) rfl (Nat.le_of_ble_eq_true rfl) (fun p e s m args below meth c A ls H B hP hD hS hl => ?_)
  obtain ⟨hx, hb, hml, hown, hts, hr, hlk, hnm, hK, hA, hN⟩ := id B
  have hown : s.vm.findClass RX7 = some m.cls := hown
  have hl : lv_has ls 3 [(0, .ref p0), (1, .int 0), (2, .int 0)] := hl
  have w_0 : (Cond.fieldLink RX7 231 "WishSeaModel" "rungSea" "[I").before args s = true := hts _ (List.mem_of_getElem? (i := 1) rfl)
  have w_1 : (Cond.fieldLink RX7 168 "WishSeaModel" "saidOf" "[I").before args s = true := hts _ (List.mem_of_getElem? (i := 2) rfl)
  have w_2 : (Cond.fieldLink RX7 171 "WishSeaModel" "dayOf" "[I").before args s = true := hts _ (List.mem_of_getElem? (i := 3) rfl)
  have hinX7 : ∀ w ∈ u_ws RX7 TX7 92, w ∈ wsX7_isContentOn := fun _ h => List.mem_cons_of_mem _ (List.mem_append_right _ h)
  refine lv_aload_n hx hb dX7_isContentOn_0 rfl (lv_at hl 0 rfl) ?_
  refine lv_iload_n hx hb dX7_isContentOn_1 rfl (lv_at hl 2 rfl) ?_
  refine lv_aload_n hx hb dX7_isContentOn_2 rfl (lv_at hl 0 rfl) ?_
  refine k_get (D := (dC, dI)) (ci := 7) (v := .ref (p1 72)) (C := RX7) (T := TX7) (N := 92) hx hb hts hinX7 hown hK hP 0 rfl rfl 72 (by decide) w_0 rfl rfl dX7_isContentOn_3 ?_
  refine lv_sipush (v := 1024) hx hb dX7_isContentOn_6 (by decide +kernel) ?_
  refine lv_iload_n hx hb dX7_isContentOn_9 rfl (lv_at hl 1 rfl) ?_
  refine lv_imul hx hb dX7_isContentOn_10 ?_
  refine k_int (v := 0) (by decide +kernel) ?_
  refine lv_iload_n hx hb dX7_isContentOn_11 rfl (lv_at hl 2 rfl) ?_
  refine lv_iadd hx hb dX7_isContentOn_12 ?_
  refine k_int (v := 0) (by decide +kernel) ?_
  refine k_iald (v := 0) hx hb hK hP 1 0 0 rfl rfl rfl (Nat.le_of_ble_eq_true rfl) (Nat.le_of_ble_eq_true rfl) rfl dX7_isContentOn_13 ?_
  refine lv_aload_n hx hb dX7_isContentOn_14 rfl (lv_at hl 0 rfl) ?_
  refine k_get (D := (dC, dI)) (ci := 7) (v := .ref (p1 51)) (C := RX7) (T := TX7) (N := 92) hx hb hts hinX7 hown hK hP 0 rfl rfl 51 (by decide) w_1 rfl rfl dX7_isContentOn_15 ?_
  refine lv_iconst (v := 0) hx hb dX7_isContentOn_18 (by decide +kernel) ?_
  refine k_iald (v := 0) hx hb hK hP 2 0 0 rfl rfl rfl (Nat.le_of_ble_eq_true rfl) (Nat.le_of_ble_eq_true rfl) rfl dX7_isContentOn_19 ?_
  refine lv_iload_n hx hb dX7_isContentOn_20 rfl (lv_at hl 1 rfl) ?_
  refine lv_iadd hx hb dX7_isContentOn_21 ?_
  refine k_int (v := 0) (by decide +kernel) ?_
  refine lv_aload_n hx hb dX7_isContentOn_22 rfl (lv_at hl 0 rfl) ?_
  refine k_get (D := (dC, dI)) (ci := 7) (v := .ref (p1 52)) (C := RX7) (T := TX7) (N := 92) hx hb hts hinX7 hown hK hP 0 rfl rfl 52 (by decide) w_2 rfl rfl dX7_isContentOn_23 ?_
  refine lv_iconst (v := 0) hx hb dX7_isContentOn_26 (by decide +kernel) ?_
  refine k_iald (v := 0) hx hb hK hP 3 0 0 rfl rfl rfl (Nat.le_of_ble_eq_true rfl) (Nat.le_of_ble_eq_true rfl) rfl dX7_isContentOn_27 ?_
  refine k_cv (wc := [(p0, .inr (7, oM p1 (upd i7 75 (-1)) j7))]) (wr := [((p1 72), .inl (cI, 9216, .inl (upd (fun _ => (-1)) 0 0))), ((p1 51), .inl (cI, 22, .inl (fun _ => 0))), ((p1 52), .inl (cI, 22, .inl (fun _ => 0))), ((p1 28), .inl (cI, 2, .inl (upd (fun _ => 0) 0 (-1))))]) (fun hPc hDc => va_runV (As := [.int 0, .int 0, .int 0, .int 0]) (rest := []) ⟨hx, hb, hml, hown, hts⟩ (c_X7_asks_v1 l dC dI cI cJ cZ cM p0 p1 H.size) (cwV 4 hts gX7_isContentOn_X7_asks rfl rfl rfl (by decide +kernel) ⟨(Nat.le_of_ble_eq_true rfl), (Nat.le_of_ble_eq_true rfl)⟩) (k_pV hPc hDc hK hN hP (q0 := 0) (ci := 7) rfl rfl) rfl rfl hl.1 rfl (lv_room (Nat.le_of_ble_eq_true rfl)) dX7_isContentOn_28 ⟨(Nat.le_of_ble_eq_true rfl), (Nat.le_of_ble_eq_true rfl)⟩) hP hD hS hA [0] [1, 2, 3, 4] rfl rfl rfl rfl (by decide) (fun _ => rfl) 0 0 rfl rfl (fun u_2 H locs hw hP hD hS => ?_)
  have hP : va_P (dC, dI) vwCl [((p1 72), .inl (cI, 9216, .inl (upd (fun _ => (-1)) 0 0))), ((p1 51), .inl (cI, 22, .inl (fun _ => 0))), ((p1 52), .inl (cI, 22, .inl (fun _ => 0))), ((p1 28), .inl (cI, 2, .inl (upd (fun _ => 0) 0 (-1)))), (p0, .inr (7, oM p1 (upd (upd (upd (upd (upd i7 62 0) 63 0) 64 0) 65 0) 75 (-1)) j7))] H := hP
  have hD : va_D A [((p1 72), .inl (cI, 9216, .inl (upd (fun _ => (-1)) 0 0))), ((p1 51), .inl (cI, 22, .inl (fun _ => 0))), ((p1 52), .inl (cI, 22, .inl (fun _ => 0))), ((p1 28), .inl (cI, 2, .inl (upd (fun _ => 0) 0 (-1)))), (p0, .inr (7, oM p1 (upd (upd (upd (upd (upd i7 62 0) 63 0) 64 0) 65 0) 75 (-1)) j7))] := hD
  refine lv_aload_n hx hb dX7_isContentOn_31 rfl (lv_at hl 0 rfl) ?_
  refine k_ci (wc := [(p0, .inr (7, oM p1 (upd (upd (upd (upd (upd i7 62 0) 63 0) 64 0) 65 0) 75 (-1)) j7)), ((p1 28), .inl (cI, 2, .inl (upd (fun _ => 0) 0 (-1))))]) (wr := [((p1 72), .inl (cI, 9216, .inl (upd (fun _ => (-1)) 0 0))), ((p1 51), .inl (cI, 22, .inl (fun _ => 0))), ((p1 52), .inl (cI, 22, .inl (fun _ => 0)))]) (fun hPc hDc => va_runV (As := []) (rest := []) ⟨hx, hb, hml, hown, hts⟩ (c_X7_isContent_v1 l dC dI cI cJ cZ cM p0 p1 H.size) (cwV 0 hts gX7_isContentOn_X7_isContent rfl rfl rfl (by decide +kernel) ⟨(Nat.le_of_ble_eq_true rfl), (Nat.le_of_ble_eq_true rfl)⟩) (k_pV hPc hDc hK hN hP (q0 := 4) (ci := 7) rfl rfl) rfl rfl hl.1 rfl (lv_room (Nat.le_of_ble_eq_true rfl)) dX7_isContentOn_32 ⟨(Nat.le_of_ble_eq_true rfl), (Nat.le_of_ble_eq_true rfl)⟩) hP hD hS hA [4, 3] [0, 1, 2] rfl rfl rfl rfl (by decide) (fun _ => rfl) 0 0 rfl rfl (fun r_3 u_4 H locs hw hP hD hS => ?_)
  obtain rfl : r_3 = 0 := hw
  have hP : va_P (dC, dI) vwCl [((p1 72), .inl (cI, 9216, .inl (upd (fun _ => (-1)) 0 0))), ((p1 51), .inl (cI, 22, .inl (fun _ => 0))), ((p1 52), .inl (cI, 22, .inl (fun _ => 0))), (p0, .inr (7, oM p1 (upd (upd (upd (upd (upd (upd i7 62 0) 63 0) 64 0) 65 0) 66 (-1)) 75 (-1)) j7)), ((p1 28), .inl (cI, 2, .inl (upd (fun _ => 0) 0 (-1))))] H := hP
  have hD : va_D A [((p1 72), .inl (cI, 9216, .inl (upd (fun _ => (-1)) 0 0))), ((p1 51), .inl (cI, 22, .inl (fun _ => 0))), ((p1 52), .inl (cI, 22, .inl (fun _ => 0))), (p0, .inr (7, oM p1 (upd (upd (upd (upd (upd (upd i7 62 0) 63 0) 64 0) 65 0) 66 (-1)) 75 (-1)) j7)), ((p1 28), .inl (cI, 2, .inl (upd (fun _ => 0) 0 (-1))))] := hD
  exact k_ri B hP hD hS dX7_isContentOn_35 () [3, 0, 1, 2, 4] rfl rfl rfl (Nat.le_of_ble_eq_true rfl) (Nat.le_of_ble_eq_true rfl) rfl
set_option maxHeartbeats 4000000 in
set_option maxRecDepth 100000 in
theorem c_X7_finds_v1 (l : Launch) (dC : Nat → ClassId) (dI : Nat → Nat → Nat) (cI cJ cZ cM : ClassId) (p0 : Nat) (p1 : Nat → Nat)   : k_Mv l yX7_finds wsX7_finds ({ frames := 3, cells := 0, slots := 0, locals := 88 }) (dC, dI) vwCl (tyy cI cJ cZ cM) [(p0, .inr (7, oM p1 i7 j7)), ((p1 49), .inl (cI, 22, .inl (fun _ => 0))), ((p1 50), .inl (cI, 22, .inl (fun _ => 0))), ((p1 72), .inl (cI, 9216, .inl (fun _ => 0))), ((p1 14), .inl (cI, 2, .inl (fun _ => 0))), ((p1 18), .inl (cI, 2, .inl (fun _ => 0))), ((p1 51), .inl (cI, 22, .inl (fun _ => 0))), ((p1 52), .inl (cI, 22, .inl (fun _ => 0))), ((p1 28), .inl (cI, 2, .inl (upd (fun _ => 0) 0 (-1))))] [.ref p0, .int (-1)] 0 0 (fun (u9 : Unit) => [(p0, .inr (7, oM p1 (upd (upd (upd (upd (upd (upd i7 62 0) 63 0) 64 0) 65 0) 66 (-1)) 75 (-1)) j7)), ((p1 49), .inl (cI, 22, .inl (fun _ => 0))), ((p1 50), .inl (cI, 22, .inl (fun _ => 0))), ((p1 72), .inl (cI, 9216, .inl (upd (fun _ => (-1)) 0 0))), ((p1 14), .inl (cI, 2, .inl (fun _ => 0))), ((p1 18), .inl (cI, 2, .inl (fun _ => 0))), ((p1 51), .inl (cI, 22, .inl (fun _ => 0))), ((p1 52), .inl (cI, 22, .inl (fun _ => 0))), ((p1 28), .inl (cI, 2, .inl (upd (fun _ => 0) 0 (-1))))]) (fun (u9 : Unit) => True) := by
  refine fun sz => k_enter (cc := cX7_finds) (maxL := 5) (ret := none) (Qc := fun A => va_Qv (fun (u9 : Unit) => True) (fun u => k_B (dC, dI) vwCl (tyy cI cJ cZ cM) A ((fun (u9 : Unit) => [(p0, .inr (7, oM p1 (upd (upd (upd (upd (upd (upd i7 62 0) 63 0) 64 0) 65 0) 66 (-1)) 75 (-1)) j7)), ((p1 49), .inl (cI, 22, .inl (fun _ => 0))), ((p1 50), .inl (cI, 22, .inl (fun _ => 0))), ((p1 72), .inl (cI, 9216, .inl (upd (fun _ => (-1)) 0 0))), ((p1 14), .inl (cI, 2, .inl (fun _ => 0))), ((p1 18), .inl (cI, 2, .inl (fun _ => 0))), ((p1 51), .inl (cI, 22, .inl (fun _ => 0))), ((p1 52), .inl (cI, 22, .inl (fun _ => 0))), ((p1 28), .inl (cI, 2, .inl (upd (fun _ => 0) 0 (-1))))]) u)) A) sz (by decide +kernel) rfl (Nat.le_of_ble_eq_true rfl) (fun p e s m args below meth c A ls H B hP hD hS hl => ?_)
  obtain ⟨hx, hb, hml, hown, hts, hr, hlk, hnm, hK, hA, hN⟩ := id B
  have hown : s.vm.findClass RX7 = some m.cls := hown
  have hl : lv_has ls 5 [(0, .ref p0), (1, .int (-1))] := hl
  have w_0 : (Cond.fieldLink RX7 240 "WishSeaModel" "foundRung" "I").before args s = true := hts _ (List.mem_of_getElem? (i := 1) rfl)
  have w_1 : (Cond.fieldLink RX7 54 "WishSeaModel" "things" "[I").before args s = true := hts _ (List.mem_of_getElem? (i := 2) rfl)
  have w_2 : (Cond.fieldLink RX7 51 "WishSeaModel" "bank" "I").before args s = true := hts _ (List.mem_of_getElem? (i := 3) rfl)
  have w_3 : (Cond.fieldLink RX7 231 "WishSeaModel" "rungSea" "[I").before args s = true := hts _ (List.mem_of_getElem? (i := 4) rfl)
  have hinX7 : ∀ w ∈ u_ws RX7 TX7 92, w ∈ wsX7_finds := fun _ h => List.mem_cons_of_mem _ (List.mem_append_right _ h)
  refine lv_aload_n hx hb dX7_finds_0 rfl (lv_at hl 0 rfl) ?_
  refine k_cv (wc := [(p0, .inr (7, oM p1 i7 j7)), ((p1 49), .inl (cI, 22, .inl (fun _ => 0))), ((p1 50), .inl (cI, 22, .inl (fun _ => 0))), ((p1 72), .inl (cI, 9216, .inl (fun _ => 0))), ((p1 14), .inl (cI, 2, .inl (fun _ => 0))), ((p1 18), .inl (cI, 2, .inl (fun _ => 0)))]) (wr := [((p1 51), .inl (cI, 22, .inl (fun _ => 0))), ((p1 52), .inl (cI, 22, .inl (fun _ => 0))), ((p1 28), .inl (cI, 2, .inl (upd (fun _ => 0) 0 (-1))))]) (fun hPc hDc => va_runV (As := []) (rest := []) ⟨hx, hb, hml, hown, hts⟩ (c_X7_climbs_v0 l dC dI cI cJ cZ cM p0 p1 H.size) (cwV 0 hts gX7_finds_X7_climbs rfl rfl rfl (by decide +kernel) ⟨(Nat.le_of_ble_eq_true rfl), (Nat.le_of_ble_eq_true rfl)⟩) (k_pV hPc hDc hK hN hP (q0 := 0) (ci := 7) rfl rfl) rfl rfl hl.1 rfl (lv_room (Nat.le_of_ble_eq_true rfl)) dX7_finds_1 ⟨(Nat.le_of_ble_eq_true rfl), (Nat.le_of_ble_eq_true rfl)⟩) hP hD hS hA [0, 1, 2, 3, 4, 5] [6, 7, 8] rfl rfl rfl rfl (by decide) (fun _ => rfl) 0 0 rfl rfl (fun u_2 H locs hw hP hD hS => ?_)
  have hP : va_P (dC, dI) vwCl [((p1 51), .inl (cI, 22, .inl (fun _ => 0))), ((p1 52), .inl (cI, 22, .inl (fun _ => 0))), ((p1 28), .inl (cI, 2, .inl (upd (fun _ => 0) 0 (-1)))), (p0, .inr (7, oM p1 i7 j7)), ((p1 49), .inl (cI, 22, .inl (fun _ => 0))), ((p1 50), .inl (cI, 22, .inl (fun _ => 0))), ((p1 72), .inl (cI, 9216, .inl (upd (fun _ => (-1)) 0 0))), ((p1 14), .inl (cI, 2, .inl (fun _ => 0))), ((p1 18), .inl (cI, 2, .inl (fun _ => 0)))] H := hP
  have hD : va_D A [((p1 51), .inl (cI, 22, .inl (fun _ => 0))), ((p1 52), .inl (cI, 22, .inl (fun _ => 0))), ((p1 28), .inl (cI, 2, .inl (upd (fun _ => 0) 0 (-1)))), (p0, .inr (7, oM p1 i7 j7)), ((p1 49), .inl (cI, 22, .inl (fun _ => 0))), ((p1 50), .inl (cI, 22, .inl (fun _ => 0))), ((p1 72), .inl (cI, 9216, .inl (upd (fun _ => (-1)) 0 0))), ((p1 14), .inl (cI, 2, .inl (fun _ => 0))), ((p1 18), .inl (cI, 2, .inl (fun _ => 0)))] := hD
  refine lv_aload_n hx hb dX7_finds_4 rfl (lv_at hl 0 rfl) ?_
  refine lv_iconst (v := (-1)) hx hb dX7_finds_5 (by decide +kernel) ?_
  refine k_put (D := (dC, dI)) (ci := 7) (v := .int (-1)) (C := RX7) (T := TX7) (N := 92) (ws' := [((p1 51), .inl (cI, 22, .inl (fun _ => 0))), ((p1 52), .inl (cI, 22, .inl (fun _ => 0))), ((p1 28), .inl (cI, 2, .inl (upd (fun _ => 0) 0 (-1)))), (p0, .inr (7, oM p1 (upd i7 75 (-1)) j7)), ((p1 49), .inl (cI, 22, .inl (fun _ => 0))), ((p1 50), .inl (cI, 22, .inl (fun _ => 0))), ((p1 72), .inl (cI, 9216, .inl (upd (fun _ => (-1)) 0 0))), ((p1 14), .inl (cI, 2, .inl (fun _ => 0))), ((p1 18), .inl (cI, 2, .inl (fun _ => 0)))]) hx hb hts hinX7 tyX7 tyX7_ok nmX7 hown hK hP hD hS 3 rfl rfl 75 (by decide) w_0 rfl rfl rfl rfl (Nat.le_of_ble_eq_true rfl) rfl dX7_finds_6 (fun H locs hP hD hS => ?_)
  refine lv_iconst (v := 0) hx hb dX7_finds_9 (by decide +kernel) ?_
  refine lv_istore_n (lv' := [(2, .int 0), (0, .ref p0), (1, .int (-1))]) hx hb dX7_finds_10 rfl hl (by decide) rfl (fun ls hl => ?_)
  refine lv_iload_n hx hb dX7_finds_11 rfl (lv_at hl 0 rfl) ?_
  refine lv_bipush (v := 8) hx hb dX7_finds_12 (by decide +kernel) ?_
  refine lv_icmp_gt (tgt := 129) hx hb dX7_finds_14 (by decide) (fun q9 => absurd q9 (by decide +kernel)) (fun _ => ?_)
  refine lv_aload_n hx hb dX7_finds_17 rfl (lv_at hl 1 rfl) ?_
  refine k_get (D := (dC, dI)) (ci := 7) (v := .int (-1)) (C := RX7) (T := TX7) (N := 92) hx hb hts hinX7 hown hK hP 3 rfl rfl 75 (by decide) w_0 rfl rfl dX7_finds_18 ?_
  refine lv_iconst (v := (-1)) hx hb dX7_finds_21 (by decide +kernel) ?_
  refine lv_icmp_ne (tgt := 129) hx hb dX7_finds_22 (by decide) (fun q9 => absurd q9 (by decide +kernel)) (fun _ => ?_)
  refine lv_iconst (v := 0) hx hb dX7_finds_25 (by decide +kernel) ?_
  refine lv_istore_n (lv' := [(3, .int 0), (2, .int 0), (0, .ref p0), (1, .int (-1))]) hx hb dX7_finds_26 rfl hl (by decide) rfl (fun ls hl => ?_)
  refine lv_iload_n hx hb dX7_finds_27 rfl (lv_at hl 0 rfl) ?_
  refine lv_iconst (v := 1) hx hb dX7_finds_28 (by decide +kernel) ?_
  refine lv_aload_n hx hb dX7_finds_29 rfl (lv_at hl 2 rfl) ?_
  refine k_get (D := (dC, dI)) (ci := 7) (v := .ref (p1 14)) (C := RX7) (T := TX7) (N := 92) hx hb hts hinX7 hown hK hP 3 rfl rfl 14 (by decide) w_1 rfl rfl dX7_finds_30 ?_
  refine lv_aload_n hx hb dX7_finds_33 rfl (lv_at hl 2 rfl) ?_
  refine k_get (D := (dC, dI)) (ci := 7) (v := .int 0) (C := RX7) (T := TX7) (N := 92) hx hb hts hinX7 hown hK hP 3 rfl rfl 13 (by decide) w_2 rfl rfl dX7_finds_34 ?_
  refine k_iald (v := 0) hx hb hK hP 7 0 0 rfl rfl rfl (Nat.le_of_ble_eq_true rfl) (Nat.le_of_ble_eq_true rfl) rfl dX7_finds_37 ?_
  refine lv_ishl hx hb dX7_finds_38 ?_
  refine k_int (v := 1) (by decide +kernel) ?_
  refine lv_icmp_ge (tgt := 123) hx hb dX7_finds_39 (by decide) (fun q9 => absurd q9 (by decide +kernel)) (fun _ => ?_)
  refine lv_aload_n hx hb dX7_finds_42 rfl (lv_at hl 2 rfl) ?_
  refine k_get (D := (dC, dI)) (ci := 7) (v := .ref (p1 72)) (C := RX7) (T := TX7) (N := 92) hx hb hts hinX7 hown hK hP 3 rfl rfl 72 (by decide) w_3 rfl rfl dX7_finds_43 ?_
  refine lv_sipush (v := 1024) hx hb dX7_finds_46 (by decide +kernel) ?_
  refine lv_iload_n hx hb dX7_finds_49 rfl (lv_at hl 1 rfl) ?_
  refine lv_imul hx hb dX7_finds_50 ?_
  refine k_int (v := 0) (by decide +kernel) ?_
  refine lv_iload_n hx hb dX7_finds_51 rfl (lv_at hl 0 rfl) ?_
  refine lv_iadd hx hb dX7_finds_52 ?_
  refine k_int (v := 0) (by decide +kernel) ?_
  refine k_iald (v := 0) hx hb hK hP 6 0 0 rfl rfl rfl (Nat.le_of_ble_eq_true rfl) (Nat.le_of_ble_eq_true rfl) rfl dX7_finds_53 ?_
  refine lv_istore (lv' := [(4, .int 0), (3, .int 0), (2, .int 0), (0, .ref p0), (1, .int (-1))]) hx hb dX7_finds_54 hl (by decide) rfl (fun ls hl => ?_)
  refine lv_iload hx hb dX7_finds_56 (lv_at hl 0 rfl) ?_
  refine lv_iconst (v := (-1)) hx hb dX7_finds_58 (by decide +kernel) ?_
  refine lv_icmp_eq (tgt := 117) hx hb dX7_finds_59 (by decide) (fun q9 => absurd q9 (by decide +kernel)) (fun _ => ?_)
  refine lv_iload_n hx hb dX7_finds_62 rfl (lv_at hl 4 rfl) ?_
  refine lv_iconst (v := (-1)) hx hb dX7_finds_63 (by decide +kernel) ?_
  refine lv_icmp_ne (tgt := 79) hx hb dX7_finds_64 (by decide) (fun q9 => absurd q9 (by decide +kernel)) (fun _ => ?_)
  refine lv_aload_n hx hb dX7_finds_67 rfl (lv_at hl 3 rfl) ?_
  refine lv_iload_n hx hb dX7_finds_68 rfl (lv_at hl 2 rfl) ?_
  refine lv_iload_n hx hb dX7_finds_69 rfl (lv_at hl 1 rfl) ?_
  refine k_ci (wc := [(p0, .inr (7, oM p1 (upd i7 75 (-1)) j7)), ((p1 72), .inl (cI, 9216, .inl (upd (fun _ => (-1)) 0 0))), ((p1 51), .inl (cI, 22, .inl (fun _ => 0))), ((p1 52), .inl (cI, 22, .inl (fun _ => 0))), ((p1 28), .inl (cI, 2, .inl (upd (fun _ => 0) 0 (-1))))]) (wr := [((p1 49), .inl (cI, 22, .inl (fun _ => 0))), ((p1 50), .inl (cI, 22, .inl (fun _ => 0))), ((p1 14), .inl (cI, 2, .inl (fun _ => 0))), ((p1 18), .inl (cI, 2, .inl (fun _ => 0)))]) (fun hPc hDc => va_runV (As := [.int 0, .int 0]) (rest := []) ⟨hx, hb, hml, hown, hts⟩ (c_X7_isContentOn_v0 l dC dI cI cJ cZ cM p0 p1 H.size) (cwV 2 hts gX7_finds_X7_isContentOn rfl rfl rfl (by decide +kernel) ⟨(Nat.le_of_ble_eq_true rfl), (Nat.le_of_ble_eq_true rfl)⟩) (k_pV hPc hDc hK hN hP (q0 := 3) (ci := 7) rfl rfl) rfl rfl hl.1 rfl (lv_room (Nat.le_of_ble_eq_true rfl)) dX7_finds_70 ⟨(Nat.le_of_ble_eq_true rfl), (Nat.le_of_ble_eq_true rfl)⟩) hP hD hS hA [3, 6, 0, 1, 2] [4, 5, 7, 8] rfl rfl rfl rfl (by decide) (fun _ => rfl) 0 0 rfl rfl (fun r_3 u_4 H locs hw hP hD hS => ?_)
  obtain rfl : r_3 = 0 := hw
  have hP : va_P (dC, dI) vwCl [((p1 49), .inl (cI, 22, .inl (fun _ => 0))), ((p1 50), .inl (cI, 22, .inl (fun _ => 0))), ((p1 14), .inl (cI, 2, .inl (fun _ => 0))), ((p1 18), .inl (cI, 2, .inl (fun _ => 0))), (p0, .inr (7, oM p1 (upd (upd (upd (upd (upd (upd i7 62 0) 63 0) 64 0) 65 0) 66 (-1)) 75 (-1)) j7)), ((p1 72), .inl (cI, 9216, .inl (upd (fun _ => (-1)) 0 0))), ((p1 51), .inl (cI, 22, .inl (fun _ => 0))), ((p1 52), .inl (cI, 22, .inl (fun _ => 0))), ((p1 28), .inl (cI, 2, .inl (upd (fun _ => 0) 0 (-1))))] H := hP
  have hD : va_D A [((p1 49), .inl (cI, 22, .inl (fun _ => 0))), ((p1 50), .inl (cI, 22, .inl (fun _ => 0))), ((p1 14), .inl (cI, 2, .inl (fun _ => 0))), ((p1 18), .inl (cI, 2, .inl (fun _ => 0))), (p0, .inr (7, oM p1 (upd (upd (upd (upd (upd (upd i7 62 0) 63 0) 64 0) 65 0) 66 (-1)) 75 (-1)) j7)), ((p1 72), .inl (cI, 9216, .inl (upd (fun _ => (-1)) 0 0))), ((p1 51), .inl (cI, 22, .inl (fun _ => 0))), ((p1 52), .inl (cI, 22, .inl (fun _ => 0))), ((p1 28), .inl (cI, 2, .inl (upd (fun _ => 0) 0 (-1))))] := hD
  refine lv_if_ne (tgt := 87) hx hb dX7_finds_73 (by decide) (fun q9 => absurd q9 (by decide +kernel)) (fun _ => ?_)
  refine lv_goto (tgt := 117) hx hb dX7_finds_76 (by decide) ?_
  refine lv_iinc (v := 1) (lv' := [(3, .int 1), (4, .int 0), (2, .int 0), (0, .ref p0), (1, .int (-1))]) hx hb dX7_finds_117 hl (k := 1) rfl (by decide +kernel) (by decide) rfl (fun ls hl => ?_)
  refine lv_goto (tgt := 27) hx hb dX7_finds_120 (by decide) ?_
  refine lv_iload_n hx hb dX7_finds_27 rfl (lv_at hl 0 rfl) ?_
  refine lv_iconst (v := 1) hx hb dX7_finds_28 (by decide +kernel) ?_
  refine lv_aload_n hx hb dX7_finds_29 rfl (lv_at hl 3 rfl) ?_
  refine k_get (D := (dC, dI)) (ci := 7) (v := .ref (p1 14)) (C := RX7) (T := TX7) (N := 92) hx hb hts hinX7 hown hK hP 4 rfl rfl 14 (by decide) w_1 rfl rfl dX7_finds_30 ?_
  refine lv_aload_n hx hb dX7_finds_33 rfl (lv_at hl 3 rfl) ?_
  refine k_get (D := (dC, dI)) (ci := 7) (v := .int 0) (C := RX7) (T := TX7) (N := 92) hx hb hts hinX7 hown hK hP 4 rfl rfl 13 (by decide) w_2 rfl rfl dX7_finds_34 ?_
  refine k_iald (v := 0) hx hb hK hP 2 0 0 rfl rfl rfl (Nat.le_of_ble_eq_true rfl) (Nat.le_of_ble_eq_true rfl) rfl dX7_finds_37 ?_
  refine lv_ishl hx hb dX7_finds_38 ?_
  refine k_int (v := 1) (by decide +kernel) ?_
  refine lv_icmp_ge (tgt := 123) hx hb dX7_finds_39 (by decide) (fun _ => ?_) (fun q9 => absurd q9 (by decide +kernel))
  refine lv_iinc (v := 1) (lv' := [(2, .int 1), (3, .int 1), (4, .int 0), (0, .ref p0), (1, .int (-1))]) hx hb dX7_finds_123 hl (k := 2) rfl (by decide +kernel) (by decide) rfl (fun ls hl => ?_)
  refine lv_goto (tgt := 11) hx hb dX7_finds_126 (by decide) ?_
  refine lv_iload_n hx hb dX7_finds_11 rfl (lv_at hl 0 rfl) ?_
  refine lv_bipush (v := 8) hx hb dX7_finds_12 (by decide +kernel) ?_
  refine lv_icmp_gt (tgt := 129) hx hb dX7_finds_14 (by decide) (fun q9 => absurd q9 (by decide +kernel)) (fun _ => ?_)
  refine lv_aload_n hx hb dX7_finds_17 rfl (lv_at hl 3 rfl) ?_
  refine k_get (D := (dC, dI)) (ci := 7) (v := .int (-1)) (C := RX7) (T := TX7) (N := 92) hx hb hts hinX7 hown hK hP 4 rfl rfl 75 (by decide) w_0 rfl rfl dX7_finds_18 ?_
  refine lv_iconst (v := (-1)) hx hb dX7_finds_21 (by decide +kernel) ?_
  refine lv_icmp_ne (tgt := 129) hx hb dX7_finds_22 (by decide) (fun q9 => absurd q9 (by decide +kernel)) (fun _ => ?_)
  refine lv_iconst (v := 0) hx hb dX7_finds_25 (by decide +kernel) ?_
  refine lv_istore_n (lv' := [(3, .int 0), (2, .int 1), (4, .int 0), (0, .ref p0), (1, .int (-1))]) hx hb dX7_finds_26 rfl hl (by decide) rfl (fun ls hl => ?_)
  refine lv_iload_n hx hb dX7_finds_27 rfl (lv_at hl 0 rfl) ?_
  refine lv_iconst (v := 1) hx hb dX7_finds_28 (by decide +kernel) ?_
  refine lv_aload_n hx hb dX7_finds_29 rfl (lv_at hl 3 rfl) ?_
  refine k_get (D := (dC, dI)) (ci := 7) (v := .ref (p1 14)) (C := RX7) (T := TX7) (N := 92) hx hb hts hinX7 hown hK hP 4 rfl rfl 14 (by decide) w_1 rfl rfl dX7_finds_30 ?_
  refine lv_aload_n hx hb dX7_finds_33 rfl (lv_at hl 3 rfl) ?_
  refine k_get (D := (dC, dI)) (ci := 7) (v := .int 0) (C := RX7) (T := TX7) (N := 92) hx hb hts hinX7 hown hK hP 4 rfl rfl 13 (by decide) w_2 rfl rfl dX7_finds_34 ?_
  refine k_iald (v := 0) hx hb hK hP 2 0 0 rfl rfl rfl (Nat.le_of_ble_eq_true rfl) (Nat.le_of_ble_eq_true rfl) rfl dX7_finds_37 ?_
  refine lv_ishl hx hb dX7_finds_38 ?_
  refine k_int (v := 1) (by decide +kernel) ?_
  refine lv_icmp_ge (tgt := 123) hx hb dX7_finds_39 (by decide) (fun q9 => absurd q9 (by decide +kernel)) (fun _ => ?_)
  refine lv_aload_n hx hb dX7_finds_42 rfl (lv_at hl 3 rfl) ?_
  refine k_get (D := (dC, dI)) (ci := 7) (v := .ref (p1 72)) (C := RX7) (T := TX7) (N := 92) hx hb hts hinX7 hown hK hP 4 rfl rfl 72 (by decide) w_3 rfl rfl dX7_finds_43 ?_
  refine lv_sipush (v := 1024) hx hb dX7_finds_46 (by decide +kernel) ?_
  refine lv_iload_n hx hb dX7_finds_49 rfl (lv_at hl 1 rfl) ?_
  refine lv_imul hx hb dX7_finds_50 ?_
  refine k_int (v := 1024) (by decide +kernel) ?_
  refine lv_iload_n hx hb dX7_finds_51 rfl (lv_at hl 0 rfl) ?_
  refine lv_iadd hx hb dX7_finds_52 ?_
  refine k_int (v := 1024) (by decide +kernel) ?_
  refine k_iald (v := (-1)) hx hb hK hP 5 0 1024 rfl rfl rfl (Nat.le_of_ble_eq_true rfl) (Nat.le_of_ble_eq_true rfl) rfl dX7_finds_53 ?_
  refine lv_istore (lv' := [(4, .int (-1)), (3, .int 0), (2, .int 1), (0, .ref p0), (1, .int (-1))]) hx hb dX7_finds_54 hl (by decide) rfl (fun ls hl => ?_)
  refine lv_iload hx hb dX7_finds_56 (lv_at hl 0 rfl) ?_
  refine lv_iconst (v := (-1)) hx hb dX7_finds_58 (by decide +kernel) ?_
  refine lv_icmp_eq (tgt := 117) hx hb dX7_finds_59 (by decide) (fun _ => ?_) (fun q9 => absurd q9 (by decide +kernel))
  refine lv_iinc (v := 1) (lv' := [(3, .int 1), (4, .int (-1)), (2, .int 1), (0, .ref p0), (1, .int (-1))]) hx hb dX7_finds_117 hl (k := 1) rfl (by decide +kernel) (by decide) rfl (fun ls hl => ?_)
  refine lv_goto (tgt := 27) hx hb dX7_finds_120 (by decide) ?_
  refine lv_iload_n hx hb dX7_finds_27 rfl (lv_at hl 0 rfl) ?_
  refine lv_iconst (v := 1) hx hb dX7_finds_28 (by decide +kernel) ?_
  refine lv_aload_n hx hb dX7_finds_29 rfl (lv_at hl 3 rfl) ?_
  refine k_get (D := (dC, dI)) (ci := 7) (v := .ref (p1 14)) (C := RX7) (T := TX7) (N := 92) hx hb hts hinX7 hown hK hP 4 rfl rfl 14 (by decide) w_1 rfl rfl dX7_finds_30 ?_
  refine lv_aload_n hx hb dX7_finds_33 rfl (lv_at hl 3 rfl) ?_
  refine k_get (D := (dC, dI)) (ci := 7) (v := .int 0) (C := RX7) (T := TX7) (N := 92) hx hb hts hinX7 hown hK hP 4 rfl rfl 13 (by decide) w_2 rfl rfl dX7_finds_34 ?_
  refine k_iald (v := 0) hx hb hK hP 2 0 0 rfl rfl rfl (Nat.le_of_ble_eq_true rfl) (Nat.le_of_ble_eq_true rfl) rfl dX7_finds_37 ?_
  refine lv_ishl hx hb dX7_finds_38 ?_
  refine k_int (v := 1) (by decide +kernel) ?_
  refine lv_icmp_ge (tgt := 123) hx hb dX7_finds_39 (by decide) (fun _ => ?_) (fun q9 => absurd q9 (by decide +kernel))
  refine lv_iinc (v := 2) (lv' := [(2, .int 2), (3, .int 1), (4, .int (-1)), (0, .ref p0), (1, .int (-1))]) hx hb dX7_finds_123 hl (k := 2) rfl (by decide +kernel) (by decide) rfl (fun ls hl => ?_)
  refine lv_goto (tgt := 11) hx hb dX7_finds_126 (by decide) ?_
  refine lv_iload_n hx hb dX7_finds_11 rfl (lv_at hl 0 rfl) ?_
  refine lv_bipush (v := 8) hx hb dX7_finds_12 (by decide +kernel) ?_
  refine lv_icmp_gt (tgt := 129) hx hb dX7_finds_14 (by decide) (fun q9 => absurd q9 (by decide +kernel)) (fun _ => ?_)
  refine lv_aload_n hx hb dX7_finds_17 rfl (lv_at hl 3 rfl) ?_
  refine k_get (D := (dC, dI)) (ci := 7) (v := .int (-1)) (C := RX7) (T := TX7) (N := 92) hx hb hts hinX7 hown hK hP 4 rfl rfl 75 (by decide) w_0 rfl rfl dX7_finds_18 ?_
  refine lv_iconst (v := (-1)) hx hb dX7_finds_21 (by decide +kernel) ?_
  refine lv_icmp_ne (tgt := 129) hx hb dX7_finds_22 (by decide) (fun q9 => absurd q9 (by decide +kernel)) (fun _ => ?_)
  refine lv_iconst (v := 0) hx hb dX7_finds_25 (by decide +kernel) ?_
  refine lv_istore_n (lv' := [(3, .int 0), (2, .int 2), (4, .int (-1)), (0, .ref p0), (1, .int (-1))]) hx hb dX7_finds_26 rfl hl (by decide) rfl (fun ls hl => ?_)
  refine lv_iload_n hx hb dX7_finds_27 rfl (lv_at hl 0 rfl) ?_
  refine lv_iconst (v := 1) hx hb dX7_finds_28 (by decide +kernel) ?_
  refine lv_aload_n hx hb dX7_finds_29 rfl (lv_at hl 3 rfl) ?_
  refine k_get (D := (dC, dI)) (ci := 7) (v := .ref (p1 14)) (C := RX7) (T := TX7) (N := 92) hx hb hts hinX7 hown hK hP 4 rfl rfl 14 (by decide) w_1 rfl rfl dX7_finds_30 ?_
  refine lv_aload_n hx hb dX7_finds_33 rfl (lv_at hl 3 rfl) ?_
  refine k_get (D := (dC, dI)) (ci := 7) (v := .int 0) (C := RX7) (T := TX7) (N := 92) hx hb hts hinX7 hown hK hP 4 rfl rfl 13 (by decide) w_2 rfl rfl dX7_finds_34 ?_
  refine k_iald (v := 0) hx hb hK hP 2 0 0 rfl rfl rfl (Nat.le_of_ble_eq_true rfl) (Nat.le_of_ble_eq_true rfl) rfl dX7_finds_37 ?_
  refine lv_ishl hx hb dX7_finds_38 ?_
  refine k_int (v := 1) (by decide +kernel) ?_
  refine lv_icmp_ge (tgt := 123) hx hb dX7_finds_39 (by decide) (fun q9 => absurd q9 (by decide +kernel)) (fun _ => ?_)
  refine lv_aload_n hx hb dX7_finds_42 rfl (lv_at hl 3 rfl) ?_
  refine k_get (D := (dC, dI)) (ci := 7) (v := .ref (p1 72)) (C := RX7) (T := TX7) (N := 92) hx hb hts hinX7 hown hK hP 4 rfl rfl 72 (by decide) w_3 rfl rfl dX7_finds_43 ?_
  refine lv_sipush (v := 1024) hx hb dX7_finds_46 (by decide +kernel) ?_
  refine lv_iload_n hx hb dX7_finds_49 rfl (lv_at hl 1 rfl) ?_
  refine lv_imul hx hb dX7_finds_50 ?_
  refine k_int (v := 2048) (by decide +kernel) ?_
  refine lv_iload_n hx hb dX7_finds_51 rfl (lv_at hl 0 rfl) ?_
  refine lv_iadd hx hb dX7_finds_52 ?_
  refine k_int (v := 2048) (by decide +kernel) ?_
  refine k_iald (v := (-1)) hx hb hK hP 5 0 2048 rfl rfl rfl (Nat.le_of_ble_eq_true rfl) (Nat.le_of_ble_eq_true rfl) rfl dX7_finds_53 ?_
  refine lv_istore (lv' := [(4, .int (-1)), (3, .int 0), (2, .int 2), (0, .ref p0), (1, .int (-1))]) hx hb dX7_finds_54 hl (by decide) rfl (fun ls hl => ?_)
  refine lv_iload hx hb dX7_finds_56 (lv_at hl 0 rfl) ?_
  refine lv_iconst (v := (-1)) hx hb dX7_finds_58 (by decide +kernel) ?_
  refine lv_icmp_eq (tgt := 117) hx hb dX7_finds_59 (by decide) (fun _ => ?_) (fun q9 => absurd q9 (by decide +kernel))
  refine lv_iinc (v := 1) (lv' := [(3, .int 1), (4, .int (-1)), (2, .int 2), (0, .ref p0), (1, .int (-1))]) hx hb dX7_finds_117 hl (k := 1) rfl (by decide +kernel) (by decide) rfl (fun ls hl => ?_)
  refine lv_goto (tgt := 27) hx hb dX7_finds_120 (by decide) ?_
  refine lv_iload_n hx hb dX7_finds_27 rfl (lv_at hl 0 rfl) ?_
  refine lv_iconst (v := 1) hx hb dX7_finds_28 (by decide +kernel) ?_
  refine lv_aload_n hx hb dX7_finds_29 rfl (lv_at hl 3 rfl) ?_
  refine k_get (D := (dC, dI)) (ci := 7) (v := .ref (p1 14)) (C := RX7) (T := TX7) (N := 92) hx hb hts hinX7 hown hK hP 4 rfl rfl 14 (by decide) w_1 rfl rfl dX7_finds_30 ?_
  refine lv_aload_n hx hb dX7_finds_33 rfl (lv_at hl 3 rfl) ?_
  refine k_get (D := (dC, dI)) (ci := 7) (v := .int 0) (C := RX7) (T := TX7) (N := 92) hx hb hts hinX7 hown hK hP 4 rfl rfl 13 (by decide) w_2 rfl rfl dX7_finds_34 ?_
  refine k_iald (v := 0) hx hb hK hP 2 0 0 rfl rfl rfl (Nat.le_of_ble_eq_true rfl) (Nat.le_of_ble_eq_true rfl) rfl dX7_finds_37 ?_
  refine lv_ishl hx hb dX7_finds_38 ?_
  refine k_int (v := 1) (by decide +kernel) ?_
  refine lv_icmp_ge (tgt := 123) hx hb dX7_finds_39 (by decide) (fun _ => ?_) (fun q9 => absurd q9 (by decide +kernel))
  refine lv_iinc (v := 3) (lv' := [(2, .int 3), (3, .int 1), (4, .int (-1)), (0, .ref p0), (1, .int (-1))]) hx hb dX7_finds_123 hl (k := 2) rfl (by decide +kernel) (by decide) rfl (fun ls hl => ?_)
  refine lv_goto (tgt := 11) hx hb dX7_finds_126 (by decide) ?_
  refine lv_iload_n hx hb dX7_finds_11 rfl (lv_at hl 0 rfl) ?_
  refine lv_bipush (v := 8) hx hb dX7_finds_12 (by decide +kernel) ?_
  refine lv_icmp_gt (tgt := 129) hx hb dX7_finds_14 (by decide) (fun q9 => absurd q9 (by decide +kernel)) (fun _ => ?_)
  refine lv_aload_n hx hb dX7_finds_17 rfl (lv_at hl 3 rfl) ?_
  refine k_get (D := (dC, dI)) (ci := 7) (v := .int (-1)) (C := RX7) (T := TX7) (N := 92) hx hb hts hinX7 hown hK hP 4 rfl rfl 75 (by decide) w_0 rfl rfl dX7_finds_18 ?_
  refine lv_iconst (v := (-1)) hx hb dX7_finds_21 (by decide +kernel) ?_
  refine lv_icmp_ne (tgt := 129) hx hb dX7_finds_22 (by decide) (fun q9 => absurd q9 (by decide +kernel)) (fun _ => ?_)
  refine lv_iconst (v := 0) hx hb dX7_finds_25 (by decide +kernel) ?_
  refine lv_istore_n (lv' := [(3, .int 0), (2, .int 3), (4, .int (-1)), (0, .ref p0), (1, .int (-1))]) hx hb dX7_finds_26 rfl hl (by decide) rfl (fun ls hl => ?_)
  refine lv_iload_n hx hb dX7_finds_27 rfl (lv_at hl 0 rfl) ?_
  refine lv_iconst (v := 1) hx hb dX7_finds_28 (by decide +kernel) ?_
  refine lv_aload_n hx hb dX7_finds_29 rfl (lv_at hl 3 rfl) ?_
  refine k_get (D := (dC, dI)) (ci := 7) (v := .ref (p1 14)) (C := RX7) (T := TX7) (N := 92) hx hb hts hinX7 hown hK hP 4 rfl rfl 14 (by decide) w_1 rfl rfl dX7_finds_30 ?_
  refine lv_aload_n hx hb dX7_finds_33 rfl (lv_at hl 3 rfl) ?_
  refine k_get (D := (dC, dI)) (ci := 7) (v := .int 0) (C := RX7) (T := TX7) (N := 92) hx hb hts hinX7 hown hK hP 4 rfl rfl 13 (by decide) w_2 rfl rfl dX7_finds_34 ?_
  refine k_iald (v := 0) hx hb hK hP 2 0 0 rfl rfl rfl (Nat.le_of_ble_eq_true rfl) (Nat.le_of_ble_eq_true rfl) rfl dX7_finds_37 ?_
  refine lv_ishl hx hb dX7_finds_38 ?_
  refine k_int (v := 1) (by decide +kernel) ?_
  refine lv_icmp_ge (tgt := 123) hx hb dX7_finds_39 (by decide) (fun q9 => absurd q9 (by decide +kernel)) (fun _ => ?_)
  refine lv_aload_n hx hb dX7_finds_42 rfl (lv_at hl 3 rfl) ?_
  refine k_get (D := (dC, dI)) (ci := 7) (v := .ref (p1 72)) (C := RX7) (T := TX7) (N := 92) hx hb hts hinX7 hown hK hP 4 rfl rfl 72 (by decide) w_3 rfl rfl dX7_finds_43 ?_
  refine lv_sipush (v := 1024) hx hb dX7_finds_46 (by decide +kernel) ?_
  refine lv_iload_n hx hb dX7_finds_49 rfl (lv_at hl 1 rfl) ?_
  refine lv_imul hx hb dX7_finds_50 ?_
  refine k_int (v := 3072) (by decide +kernel) ?_
  refine lv_iload_n hx hb dX7_finds_51 rfl (lv_at hl 0 rfl) ?_
  refine lv_iadd hx hb dX7_finds_52 ?_
  refine k_int (v := 3072) (by decide +kernel) ?_
  refine k_iald (v := (-1)) hx hb hK hP 5 0 3072 rfl rfl rfl (Nat.le_of_ble_eq_true rfl) (Nat.le_of_ble_eq_true rfl) rfl dX7_finds_53 ?_
  refine lv_istore (lv' := [(4, .int (-1)), (3, .int 0), (2, .int 3), (0, .ref p0), (1, .int (-1))]) hx hb dX7_finds_54 hl (by decide) rfl (fun ls hl => ?_)
  refine lv_iload hx hb dX7_finds_56 (lv_at hl 0 rfl) ?_
  refine lv_iconst (v := (-1)) hx hb dX7_finds_58 (by decide +kernel) ?_
  refine lv_icmp_eq (tgt := 117) hx hb dX7_finds_59 (by decide) (fun _ => ?_) (fun q9 => absurd q9 (by decide +kernel))
  refine lv_iinc (v := 1) (lv' := [(3, .int 1), (4, .int (-1)), (2, .int 3), (0, .ref p0), (1, .int (-1))]) hx hb dX7_finds_117 hl (k := 1) rfl (by decide +kernel) (by decide) rfl (fun ls hl => ?_)
  refine lv_goto (tgt := 27) hx hb dX7_finds_120 (by decide) ?_
  refine lv_iload_n hx hb dX7_finds_27 rfl (lv_at hl 0 rfl) ?_
  refine lv_iconst (v := 1) hx hb dX7_finds_28 (by decide +kernel) ?_
  refine lv_aload_n hx hb dX7_finds_29 rfl (lv_at hl 3 rfl) ?_
  refine k_get (D := (dC, dI)) (ci := 7) (v := .ref (p1 14)) (C := RX7) (T := TX7) (N := 92) hx hb hts hinX7 hown hK hP 4 rfl rfl 14 (by decide) w_1 rfl rfl dX7_finds_30 ?_
  refine lv_aload_n hx hb dX7_finds_33 rfl (lv_at hl 3 rfl) ?_
  refine k_get (D := (dC, dI)) (ci := 7) (v := .int 0) (C := RX7) (T := TX7) (N := 92) hx hb hts hinX7 hown hK hP 4 rfl rfl 13 (by decide) w_2 rfl rfl dX7_finds_34 ?_
  refine k_iald (v := 0) hx hb hK hP 2 0 0 rfl rfl rfl (Nat.le_of_ble_eq_true rfl) (Nat.le_of_ble_eq_true rfl) rfl dX7_finds_37 ?_
  refine lv_ishl hx hb dX7_finds_38 ?_
  refine k_int (v := 1) (by decide +kernel) ?_
  refine lv_icmp_ge (tgt := 123) hx hb dX7_finds_39 (by decide) (fun _ => ?_) (fun q9 => absurd q9 (by decide +kernel))
  refine lv_iinc (v := 4) (lv' := [(2, .int 4), (3, .int 1), (4, .int (-1)), (0, .ref p0), (1, .int (-1))]) hx hb dX7_finds_123 hl (k := 2) rfl (by decide +kernel) (by decide) rfl (fun ls hl => ?_)
  refine lv_goto (tgt := 11) hx hb dX7_finds_126 (by decide) ?_
  refine lv_iload_n hx hb dX7_finds_11 rfl (lv_at hl 0 rfl) ?_
  refine lv_bipush (v := 8) hx hb dX7_finds_12 (by decide +kernel) ?_
  refine lv_icmp_gt (tgt := 129) hx hb dX7_finds_14 (by decide) (fun q9 => absurd q9 (by decide +kernel)) (fun _ => ?_)
  refine lv_aload_n hx hb dX7_finds_17 rfl (lv_at hl 3 rfl) ?_
  refine k_get (D := (dC, dI)) (ci := 7) (v := .int (-1)) (C := RX7) (T := TX7) (N := 92) hx hb hts hinX7 hown hK hP 4 rfl rfl 75 (by decide) w_0 rfl rfl dX7_finds_18 ?_
  refine lv_iconst (v := (-1)) hx hb dX7_finds_21 (by decide +kernel) ?_
  refine lv_icmp_ne (tgt := 129) hx hb dX7_finds_22 (by decide) (fun q9 => absurd q9 (by decide +kernel)) (fun _ => ?_)
  refine lv_iconst (v := 0) hx hb dX7_finds_25 (by decide +kernel) ?_
  refine lv_istore_n (lv' := [(3, .int 0), (2, .int 4), (4, .int (-1)), (0, .ref p0), (1, .int (-1))]) hx hb dX7_finds_26 rfl hl (by decide) rfl (fun ls hl => ?_)
  refine lv_iload_n hx hb dX7_finds_27 rfl (lv_at hl 0 rfl) ?_
  refine lv_iconst (v := 1) hx hb dX7_finds_28 (by decide +kernel) ?_
  refine lv_aload_n hx hb dX7_finds_29 rfl (lv_at hl 3 rfl) ?_
  refine k_get (D := (dC, dI)) (ci := 7) (v := .ref (p1 14)) (C := RX7) (T := TX7) (N := 92) hx hb hts hinX7 hown hK hP 4 rfl rfl 14 (by decide) w_1 rfl rfl dX7_finds_30 ?_
  refine lv_aload_n hx hb dX7_finds_33 rfl (lv_at hl 3 rfl) ?_
  refine k_get (D := (dC, dI)) (ci := 7) (v := .int 0) (C := RX7) (T := TX7) (N := 92) hx hb hts hinX7 hown hK hP 4 rfl rfl 13 (by decide) w_2 rfl rfl dX7_finds_34 ?_
  refine k_iald (v := 0) hx hb hK hP 2 0 0 rfl rfl rfl (Nat.le_of_ble_eq_true rfl) (Nat.le_of_ble_eq_true rfl) rfl dX7_finds_37 ?_
  refine lv_ishl hx hb dX7_finds_38 ?_
  refine k_int (v := 1) (by decide +kernel) ?_
  refine lv_icmp_ge (tgt := 123) hx hb dX7_finds_39 (by decide) (fun q9 => absurd q9 (by decide +kernel)) (fun _ => ?_)
  refine lv_aload_n hx hb dX7_finds_42 rfl (lv_at hl 3 rfl) ?_
  refine k_get (D := (dC, dI)) (ci := 7) (v := .ref (p1 72)) (C := RX7) (T := TX7) (N := 92) hx hb hts hinX7 hown hK hP 4 rfl rfl 72 (by decide) w_3 rfl rfl dX7_finds_43 ?_
  refine lv_sipush (v := 1024) hx hb dX7_finds_46 (by decide +kernel) ?_
  refine lv_iload_n hx hb dX7_finds_49 rfl (lv_at hl 1 rfl) ?_
  refine lv_imul hx hb dX7_finds_50 ?_
  refine k_int (v := 4096) (by decide +kernel) ?_
  refine lv_iload_n hx hb dX7_finds_51 rfl (lv_at hl 0 rfl) ?_
  refine lv_iadd hx hb dX7_finds_52 ?_
  refine k_int (v := 4096) (by decide +kernel) ?_
  refine k_iald (v := (-1)) hx hb hK hP 5 0 4096 rfl rfl rfl (Nat.le_of_ble_eq_true rfl) (Nat.le_of_ble_eq_true rfl) rfl dX7_finds_53 ?_
  refine lv_istore (lv' := [(4, .int (-1)), (3, .int 0), (2, .int 4), (0, .ref p0), (1, .int (-1))]) hx hb dX7_finds_54 hl (by decide) rfl (fun ls hl => ?_)
  refine lv_iload hx hb dX7_finds_56 (lv_at hl 0 rfl) ?_
  refine lv_iconst (v := (-1)) hx hb dX7_finds_58 (by decide +kernel) ?_
  refine lv_icmp_eq (tgt := 117) hx hb dX7_finds_59 (by decide) (fun _ => ?_) (fun q9 => absurd q9 (by decide +kernel))
  refine lv_iinc (v := 1) (lv' := [(3, .int 1), (4, .int (-1)), (2, .int 4), (0, .ref p0), (1, .int (-1))]) hx hb dX7_finds_117 hl (k := 1) rfl (by decide +kernel) (by decide) rfl (fun ls hl => ?_)
  refine lv_goto (tgt := 27) hx hb dX7_finds_120 (by decide) ?_
  refine lv_iload_n hx hb dX7_finds_27 rfl (lv_at hl 0 rfl) ?_
  refine lv_iconst (v := 1) hx hb dX7_finds_28 (by decide +kernel) ?_
  refine lv_aload_n hx hb dX7_finds_29 rfl (lv_at hl 3 rfl) ?_
  refine k_get (D := (dC, dI)) (ci := 7) (v := .ref (p1 14)) (C := RX7) (T := TX7) (N := 92) hx hb hts hinX7 hown hK hP 4 rfl rfl 14 (by decide) w_1 rfl rfl dX7_finds_30 ?_
  refine lv_aload_n hx hb dX7_finds_33 rfl (lv_at hl 3 rfl) ?_
  refine k_get (D := (dC, dI)) (ci := 7) (v := .int 0) (C := RX7) (T := TX7) (N := 92) hx hb hts hinX7 hown hK hP 4 rfl rfl 13 (by decide) w_2 rfl rfl dX7_finds_34 ?_
  refine k_iald (v := 0) hx hb hK hP 2 0 0 rfl rfl rfl (Nat.le_of_ble_eq_true rfl) (Nat.le_of_ble_eq_true rfl) rfl dX7_finds_37 ?_
  refine lv_ishl hx hb dX7_finds_38 ?_
  refine k_int (v := 1) (by decide +kernel) ?_
  refine lv_icmp_ge (tgt := 123) hx hb dX7_finds_39 (by decide) (fun _ => ?_) (fun q9 => absurd q9 (by decide +kernel))
  refine lv_iinc (v := 5) (lv' := [(2, .int 5), (3, .int 1), (4, .int (-1)), (0, .ref p0), (1, .int (-1))]) hx hb dX7_finds_123 hl (k := 2) rfl (by decide +kernel) (by decide) rfl (fun ls hl => ?_)
  refine lv_goto (tgt := 11) hx hb dX7_finds_126 (by decide) ?_
  refine lv_iload_n hx hb dX7_finds_11 rfl (lv_at hl 0 rfl) ?_
  refine lv_bipush (v := 8) hx hb dX7_finds_12 (by decide +kernel) ?_
  refine lv_icmp_gt (tgt := 129) hx hb dX7_finds_14 (by decide) (fun q9 => absurd q9 (by decide +kernel)) (fun _ => ?_)
  refine lv_aload_n hx hb dX7_finds_17 rfl (lv_at hl 3 rfl) ?_
  refine k_get (D := (dC, dI)) (ci := 7) (v := .int (-1)) (C := RX7) (T := TX7) (N := 92) hx hb hts hinX7 hown hK hP 4 rfl rfl 75 (by decide) w_0 rfl rfl dX7_finds_18 ?_
  refine lv_iconst (v := (-1)) hx hb dX7_finds_21 (by decide +kernel) ?_
  refine lv_icmp_ne (tgt := 129) hx hb dX7_finds_22 (by decide) (fun q9 => absurd q9 (by decide +kernel)) (fun _ => ?_)
  refine lv_iconst (v := 0) hx hb dX7_finds_25 (by decide +kernel) ?_
  refine lv_istore_n (lv' := [(3, .int 0), (2, .int 5), (4, .int (-1)), (0, .ref p0), (1, .int (-1))]) hx hb dX7_finds_26 rfl hl (by decide) rfl (fun ls hl => ?_)
  refine lv_iload_n hx hb dX7_finds_27 rfl (lv_at hl 0 rfl) ?_
  refine lv_iconst (v := 1) hx hb dX7_finds_28 (by decide +kernel) ?_
  refine lv_aload_n hx hb dX7_finds_29 rfl (lv_at hl 3 rfl) ?_
  refine k_get (D := (dC, dI)) (ci := 7) (v := .ref (p1 14)) (C := RX7) (T := TX7) (N := 92) hx hb hts hinX7 hown hK hP 4 rfl rfl 14 (by decide) w_1 rfl rfl dX7_finds_30 ?_
  refine lv_aload_n hx hb dX7_finds_33 rfl (lv_at hl 3 rfl) ?_
  refine k_get (D := (dC, dI)) (ci := 7) (v := .int 0) (C := RX7) (T := TX7) (N := 92) hx hb hts hinX7 hown hK hP 4 rfl rfl 13 (by decide) w_2 rfl rfl dX7_finds_34 ?_
  refine k_iald (v := 0) hx hb hK hP 2 0 0 rfl rfl rfl (Nat.le_of_ble_eq_true rfl) (Nat.le_of_ble_eq_true rfl) rfl dX7_finds_37 ?_
  refine lv_ishl hx hb dX7_finds_38 ?_
  refine k_int (v := 1) (by decide +kernel) ?_
  refine lv_icmp_ge (tgt := 123) hx hb dX7_finds_39 (by decide) (fun q9 => absurd q9 (by decide +kernel)) (fun _ => ?_)
  refine lv_aload_n hx hb dX7_finds_42 rfl (lv_at hl 3 rfl) ?_
  refine k_get (D := (dC, dI)) (ci := 7) (v := .ref (p1 72)) (C := RX7) (T := TX7) (N := 92) hx hb hts hinX7 hown hK hP 4 rfl rfl 72 (by decide) w_3 rfl rfl dX7_finds_43 ?_
  refine lv_sipush (v := 1024) hx hb dX7_finds_46 (by decide +kernel) ?_
  refine lv_iload_n hx hb dX7_finds_49 rfl (lv_at hl 1 rfl) ?_
  refine lv_imul hx hb dX7_finds_50 ?_
  refine k_int (v := 5120) (by decide +kernel) ?_
  refine lv_iload_n hx hb dX7_finds_51 rfl (lv_at hl 0 rfl) ?_
  refine lv_iadd hx hb dX7_finds_52 ?_
  refine k_int (v := 5120) (by decide +kernel) ?_
  refine k_iald (v := (-1)) hx hb hK hP 5 0 5120 rfl rfl rfl (Nat.le_of_ble_eq_true rfl) (Nat.le_of_ble_eq_true rfl) rfl dX7_finds_53 ?_
  refine lv_istore (lv' := [(4, .int (-1)), (3, .int 0), (2, .int 5), (0, .ref p0), (1, .int (-1))]) hx hb dX7_finds_54 hl (by decide) rfl (fun ls hl => ?_)
  refine lv_iload hx hb dX7_finds_56 (lv_at hl 0 rfl) ?_
  refine lv_iconst (v := (-1)) hx hb dX7_finds_58 (by decide +kernel) ?_
  refine lv_icmp_eq (tgt := 117) hx hb dX7_finds_59 (by decide) (fun _ => ?_) (fun q9 => absurd q9 (by decide +kernel))
  refine lv_iinc (v := 1) (lv' := [(3, .int 1), (4, .int (-1)), (2, .int 5), (0, .ref p0), (1, .int (-1))]) hx hb dX7_finds_117 hl (k := 1) rfl (by decide +kernel) (by decide) rfl (fun ls hl => ?_)
  refine lv_goto (tgt := 27) hx hb dX7_finds_120 (by decide) ?_
  refine lv_iload_n hx hb dX7_finds_27 rfl (lv_at hl 0 rfl) ?_
  refine lv_iconst (v := 1) hx hb dX7_finds_28 (by decide +kernel) ?_
  refine lv_aload_n hx hb dX7_finds_29 rfl (lv_at hl 3 rfl) ?_
  refine k_get (D := (dC, dI)) (ci := 7) (v := .ref (p1 14)) (C := RX7) (T := TX7) (N := 92) hx hb hts hinX7 hown hK hP 4 rfl rfl 14 (by decide) w_1 rfl rfl dX7_finds_30 ?_
  refine lv_aload_n hx hb dX7_finds_33 rfl (lv_at hl 3 rfl) ?_
  refine k_get (D := (dC, dI)) (ci := 7) (v := .int 0) (C := RX7) (T := TX7) (N := 92) hx hb hts hinX7 hown hK hP 4 rfl rfl 13 (by decide) w_2 rfl rfl dX7_finds_34 ?_
  refine k_iald (v := 0) hx hb hK hP 2 0 0 rfl rfl rfl (Nat.le_of_ble_eq_true rfl) (Nat.le_of_ble_eq_true rfl) rfl dX7_finds_37 ?_
  refine lv_ishl hx hb dX7_finds_38 ?_
  refine k_int (v := 1) (by decide +kernel) ?_
  refine lv_icmp_ge (tgt := 123) hx hb dX7_finds_39 (by decide) (fun _ => ?_) (fun q9 => absurd q9 (by decide +kernel))
  refine lv_iinc (v := 6) (lv' := [(2, .int 6), (3, .int 1), (4, .int (-1)), (0, .ref p0), (1, .int (-1))]) hx hb dX7_finds_123 hl (k := 2) rfl (by decide +kernel) (by decide) rfl (fun ls hl => ?_)
  refine lv_goto (tgt := 11) hx hb dX7_finds_126 (by decide) ?_
  refine lv_iload_n hx hb dX7_finds_11 rfl (lv_at hl 0 rfl) ?_
  refine lv_bipush (v := 8) hx hb dX7_finds_12 (by decide +kernel) ?_
  refine lv_icmp_gt (tgt := 129) hx hb dX7_finds_14 (by decide) (fun q9 => absurd q9 (by decide +kernel)) (fun _ => ?_)
  refine lv_aload_n hx hb dX7_finds_17 rfl (lv_at hl 3 rfl) ?_
  refine k_get (D := (dC, dI)) (ci := 7) (v := .int (-1)) (C := RX7) (T := TX7) (N := 92) hx hb hts hinX7 hown hK hP 4 rfl rfl 75 (by decide) w_0 rfl rfl dX7_finds_18 ?_
  refine lv_iconst (v := (-1)) hx hb dX7_finds_21 (by decide +kernel) ?_
  refine lv_icmp_ne (tgt := 129) hx hb dX7_finds_22 (by decide) (fun q9 => absurd q9 (by decide +kernel)) (fun _ => ?_)
  refine lv_iconst (v := 0) hx hb dX7_finds_25 (by decide +kernel) ?_
  refine lv_istore_n (lv' := [(3, .int 0), (2, .int 6), (4, .int (-1)), (0, .ref p0), (1, .int (-1))]) hx hb dX7_finds_26 rfl hl (by decide) rfl (fun ls hl => ?_)
  refine lv_iload_n hx hb dX7_finds_27 rfl (lv_at hl 0 rfl) ?_
  refine lv_iconst (v := 1) hx hb dX7_finds_28 (by decide +kernel) ?_
  refine lv_aload_n hx hb dX7_finds_29 rfl (lv_at hl 3 rfl) ?_
  refine k_get (D := (dC, dI)) (ci := 7) (v := .ref (p1 14)) (C := RX7) (T := TX7) (N := 92) hx hb hts hinX7 hown hK hP 4 rfl rfl 14 (by decide) w_1 rfl rfl dX7_finds_30 ?_
  refine lv_aload_n hx hb dX7_finds_33 rfl (lv_at hl 3 rfl) ?_
  refine k_get (D := (dC, dI)) (ci := 7) (v := .int 0) (C := RX7) (T := TX7) (N := 92) hx hb hts hinX7 hown hK hP 4 rfl rfl 13 (by decide) w_2 rfl rfl dX7_finds_34 ?_
  refine k_iald (v := 0) hx hb hK hP 2 0 0 rfl rfl rfl (Nat.le_of_ble_eq_true rfl) (Nat.le_of_ble_eq_true rfl) rfl dX7_finds_37 ?_
  refine lv_ishl hx hb dX7_finds_38 ?_
  refine k_int (v := 1) (by decide +kernel) ?_
  refine lv_icmp_ge (tgt := 123) hx hb dX7_finds_39 (by decide) (fun q9 => absurd q9 (by decide +kernel)) (fun _ => ?_)
  refine lv_aload_n hx hb dX7_finds_42 rfl (lv_at hl 3 rfl) ?_
  refine k_get (D := (dC, dI)) (ci := 7) (v := .ref (p1 72)) (C := RX7) (T := TX7) (N := 92) hx hb hts hinX7 hown hK hP 4 rfl rfl 72 (by decide) w_3 rfl rfl dX7_finds_43 ?_
  refine lv_sipush (v := 1024) hx hb dX7_finds_46 (by decide +kernel) ?_
  refine lv_iload_n hx hb dX7_finds_49 rfl (lv_at hl 1 rfl) ?_
  refine lv_imul hx hb dX7_finds_50 ?_
  refine k_int (v := 6144) (by decide +kernel) ?_
  refine lv_iload_n hx hb dX7_finds_51 rfl (lv_at hl 0 rfl) ?_
  refine lv_iadd hx hb dX7_finds_52 ?_
  refine k_int (v := 6144) (by decide +kernel) ?_
  refine k_iald (v := (-1)) hx hb hK hP 5 0 6144 rfl rfl rfl (Nat.le_of_ble_eq_true rfl) (Nat.le_of_ble_eq_true rfl) rfl dX7_finds_53 ?_
  refine lv_istore (lv' := [(4, .int (-1)), (3, .int 0), (2, .int 6), (0, .ref p0), (1, .int (-1))]) hx hb dX7_finds_54 hl (by decide) rfl (fun ls hl => ?_)
  refine lv_iload hx hb dX7_finds_56 (lv_at hl 0 rfl) ?_
  refine lv_iconst (v := (-1)) hx hb dX7_finds_58 (by decide +kernel) ?_
  refine lv_icmp_eq (tgt := 117) hx hb dX7_finds_59 (by decide) (fun _ => ?_) (fun q9 => absurd q9 (by decide +kernel))
  refine lv_iinc (v := 1) (lv' := [(3, .int 1), (4, .int (-1)), (2, .int 6), (0, .ref p0), (1, .int (-1))]) hx hb dX7_finds_117 hl (k := 1) rfl (by decide +kernel) (by decide) rfl (fun ls hl => ?_)
  refine lv_goto (tgt := 27) hx hb dX7_finds_120 (by decide) ?_
  refine lv_iload_n hx hb dX7_finds_27 rfl (lv_at hl 0 rfl) ?_
  refine lv_iconst (v := 1) hx hb dX7_finds_28 (by decide +kernel) ?_
  refine lv_aload_n hx hb dX7_finds_29 rfl (lv_at hl 3 rfl) ?_
  refine k_get (D := (dC, dI)) (ci := 7) (v := .ref (p1 14)) (C := RX7) (T := TX7) (N := 92) hx hb hts hinX7 hown hK hP 4 rfl rfl 14 (by decide) w_1 rfl rfl dX7_finds_30 ?_
  refine lv_aload_n hx hb dX7_finds_33 rfl (lv_at hl 3 rfl) ?_
  refine k_get (D := (dC, dI)) (ci := 7) (v := .int 0) (C := RX7) (T := TX7) (N := 92) hx hb hts hinX7 hown hK hP 4 rfl rfl 13 (by decide) w_2 rfl rfl dX7_finds_34 ?_
  refine k_iald (v := 0) hx hb hK hP 2 0 0 rfl rfl rfl (Nat.le_of_ble_eq_true rfl) (Nat.le_of_ble_eq_true rfl) rfl dX7_finds_37 ?_
  refine lv_ishl hx hb dX7_finds_38 ?_
  refine k_int (v := 1) (by decide +kernel) ?_
  refine lv_icmp_ge (tgt := 123) hx hb dX7_finds_39 (by decide) (fun _ => ?_) (fun q9 => absurd q9 (by decide +kernel))
  refine lv_iinc (v := 7) (lv' := [(2, .int 7), (3, .int 1), (4, .int (-1)), (0, .ref p0), (1, .int (-1))]) hx hb dX7_finds_123 hl (k := 2) rfl (by decide +kernel) (by decide) rfl (fun ls hl => ?_)
  refine lv_goto (tgt := 11) hx hb dX7_finds_126 (by decide) ?_
  refine lv_iload_n hx hb dX7_finds_11 rfl (lv_at hl 0 rfl) ?_
  refine lv_bipush (v := 8) hx hb dX7_finds_12 (by decide +kernel) ?_
  refine lv_icmp_gt (tgt := 129) hx hb dX7_finds_14 (by decide) (fun q9 => absurd q9 (by decide +kernel)) (fun _ => ?_)
  refine lv_aload_n hx hb dX7_finds_17 rfl (lv_at hl 3 rfl) ?_
  refine k_get (D := (dC, dI)) (ci := 7) (v := .int (-1)) (C := RX7) (T := TX7) (N := 92) hx hb hts hinX7 hown hK hP 4 rfl rfl 75 (by decide) w_0 rfl rfl dX7_finds_18 ?_
  refine lv_iconst (v := (-1)) hx hb dX7_finds_21 (by decide +kernel) ?_
  refine lv_icmp_ne (tgt := 129) hx hb dX7_finds_22 (by decide) (fun q9 => absurd q9 (by decide +kernel)) (fun _ => ?_)
  refine lv_iconst (v := 0) hx hb dX7_finds_25 (by decide +kernel) ?_
  refine lv_istore_n (lv' := [(3, .int 0), (2, .int 7), (4, .int (-1)), (0, .ref p0), (1, .int (-1))]) hx hb dX7_finds_26 rfl hl (by decide) rfl (fun ls hl => ?_)
  refine lv_iload_n hx hb dX7_finds_27 rfl (lv_at hl 0 rfl) ?_
  refine lv_iconst (v := 1) hx hb dX7_finds_28 (by decide +kernel) ?_
  refine lv_aload_n hx hb dX7_finds_29 rfl (lv_at hl 3 rfl) ?_
  refine k_get (D := (dC, dI)) (ci := 7) (v := .ref (p1 14)) (C := RX7) (T := TX7) (N := 92) hx hb hts hinX7 hown hK hP 4 rfl rfl 14 (by decide) w_1 rfl rfl dX7_finds_30 ?_
  refine lv_aload_n hx hb dX7_finds_33 rfl (lv_at hl 3 rfl) ?_
  refine k_get (D := (dC, dI)) (ci := 7) (v := .int 0) (C := RX7) (T := TX7) (N := 92) hx hb hts hinX7 hown hK hP 4 rfl rfl 13 (by decide) w_2 rfl rfl dX7_finds_34 ?_
  refine k_iald (v := 0) hx hb hK hP 2 0 0 rfl rfl rfl (Nat.le_of_ble_eq_true rfl) (Nat.le_of_ble_eq_true rfl) rfl dX7_finds_37 ?_
  refine lv_ishl hx hb dX7_finds_38 ?_
  refine k_int (v := 1) (by decide +kernel) ?_
  refine lv_icmp_ge (tgt := 123) hx hb dX7_finds_39 (by decide) (fun q9 => absurd q9 (by decide +kernel)) (fun _ => ?_)
  refine lv_aload_n hx hb dX7_finds_42 rfl (lv_at hl 3 rfl) ?_
  refine k_get (D := (dC, dI)) (ci := 7) (v := .ref (p1 72)) (C := RX7) (T := TX7) (N := 92) hx hb hts hinX7 hown hK hP 4 rfl rfl 72 (by decide) w_3 rfl rfl dX7_finds_43 ?_
  refine lv_sipush (v := 1024) hx hb dX7_finds_46 (by decide +kernel) ?_
  refine lv_iload_n hx hb dX7_finds_49 rfl (lv_at hl 1 rfl) ?_
  refine lv_imul hx hb dX7_finds_50 ?_
  refine k_int (v := 7168) (by decide +kernel) ?_
  refine lv_iload_n hx hb dX7_finds_51 rfl (lv_at hl 0 rfl) ?_
  refine lv_iadd hx hb dX7_finds_52 ?_
  refine k_int (v := 7168) (by decide +kernel) ?_
  refine k_iald (v := (-1)) hx hb hK hP 5 0 7168 rfl rfl rfl (Nat.le_of_ble_eq_true rfl) (Nat.le_of_ble_eq_true rfl) rfl dX7_finds_53 ?_
  refine lv_istore (lv' := [(4, .int (-1)), (3, .int 0), (2, .int 7), (0, .ref p0), (1, .int (-1))]) hx hb dX7_finds_54 hl (by decide) rfl (fun ls hl => ?_)
  refine lv_iload hx hb dX7_finds_56 (lv_at hl 0 rfl) ?_
  refine lv_iconst (v := (-1)) hx hb dX7_finds_58 (by decide +kernel) ?_
  refine lv_icmp_eq (tgt := 117) hx hb dX7_finds_59 (by decide) (fun _ => ?_) (fun q9 => absurd q9 (by decide +kernel))
  refine lv_iinc (v := 1) (lv' := [(3, .int 1), (4, .int (-1)), (2, .int 7), (0, .ref p0), (1, .int (-1))]) hx hb dX7_finds_117 hl (k := 1) rfl (by decide +kernel) (by decide) rfl (fun ls hl => ?_)
  refine lv_goto (tgt := 27) hx hb dX7_finds_120 (by decide) ?_
  refine lv_iload_n hx hb dX7_finds_27 rfl (lv_at hl 0 rfl) ?_
  refine lv_iconst (v := 1) hx hb dX7_finds_28 (by decide +kernel) ?_
  refine lv_aload_n hx hb dX7_finds_29 rfl (lv_at hl 3 rfl) ?_
  refine k_get (D := (dC, dI)) (ci := 7) (v := .ref (p1 14)) (C := RX7) (T := TX7) (N := 92) hx hb hts hinX7 hown hK hP 4 rfl rfl 14 (by decide) w_1 rfl rfl dX7_finds_30 ?_
  refine lv_aload_n hx hb dX7_finds_33 rfl (lv_at hl 3 rfl) ?_
  refine k_get (D := (dC, dI)) (ci := 7) (v := .int 0) (C := RX7) (T := TX7) (N := 92) hx hb hts hinX7 hown hK hP 4 rfl rfl 13 (by decide) w_2 rfl rfl dX7_finds_34 ?_
  refine k_iald (v := 0) hx hb hK hP 2 0 0 rfl rfl rfl (Nat.le_of_ble_eq_true rfl) (Nat.le_of_ble_eq_true rfl) rfl dX7_finds_37 ?_
  refine lv_ishl hx hb dX7_finds_38 ?_
  refine k_int (v := 1) (by decide +kernel) ?_
  refine lv_icmp_ge (tgt := 123) hx hb dX7_finds_39 (by decide) (fun _ => ?_) (fun q9 => absurd q9 (by decide +kernel))
  refine lv_iinc (v := 8) (lv' := [(2, .int 8), (3, .int 1), (4, .int (-1)), (0, .ref p0), (1, .int (-1))]) hx hb dX7_finds_123 hl (k := 2) rfl (by decide +kernel) (by decide) rfl (fun ls hl => ?_)
  refine lv_goto (tgt := 11) hx hb dX7_finds_126 (by decide) ?_
  refine lv_iload_n hx hb dX7_finds_11 rfl (lv_at hl 0 rfl) ?_
  refine lv_bipush (v := 8) hx hb dX7_finds_12 (by decide +kernel) ?_
  refine lv_icmp_gt (tgt := 129) hx hb dX7_finds_14 (by decide) (fun q9 => absurd q9 (by decide +kernel)) (fun _ => ?_)
  refine lv_aload_n hx hb dX7_finds_17 rfl (lv_at hl 3 rfl) ?_
  refine k_get (D := (dC, dI)) (ci := 7) (v := .int (-1)) (C := RX7) (T := TX7) (N := 92) hx hb hts hinX7 hown hK hP 4 rfl rfl 75 (by decide) w_0 rfl rfl dX7_finds_18 ?_
  refine lv_iconst (v := (-1)) hx hb dX7_finds_21 (by decide +kernel) ?_
  refine lv_icmp_ne (tgt := 129) hx hb dX7_finds_22 (by decide) (fun q9 => absurd q9 (by decide +kernel)) (fun _ => ?_)
  refine lv_iconst (v := 0) hx hb dX7_finds_25 (by decide +kernel) ?_
  refine lv_istore_n (lv' := [(3, .int 0), (2, .int 8), (4, .int (-1)), (0, .ref p0), (1, .int (-1))]) hx hb dX7_finds_26 rfl hl (by decide) rfl (fun ls hl => ?_)
  refine lv_iload_n hx hb dX7_finds_27 rfl (lv_at hl 0 rfl) ?_
  refine lv_iconst (v := 1) hx hb dX7_finds_28 (by decide +kernel) ?_
  refine lv_aload_n hx hb dX7_finds_29 rfl (lv_at hl 3 rfl) ?_
  refine k_get (D := (dC, dI)) (ci := 7) (v := .ref (p1 14)) (C := RX7) (T := TX7) (N := 92) hx hb hts hinX7 hown hK hP 4 rfl rfl 14 (by decide) w_1 rfl rfl dX7_finds_30 ?_
  refine lv_aload_n hx hb dX7_finds_33 rfl (lv_at hl 3 rfl) ?_
  refine k_get (D := (dC, dI)) (ci := 7) (v := .int 0) (C := RX7) (T := TX7) (N := 92) hx hb hts hinX7 hown hK hP 4 rfl rfl 13 (by decide) w_2 rfl rfl dX7_finds_34 ?_
  refine k_iald (v := 0) hx hb hK hP 2 0 0 rfl rfl rfl (Nat.le_of_ble_eq_true rfl) (Nat.le_of_ble_eq_true rfl) rfl dX7_finds_37 ?_
  refine lv_ishl hx hb dX7_finds_38 ?_
  refine k_int (v := 1) (by decide +kernel) ?_
  refine lv_icmp_ge (tgt := 123) hx hb dX7_finds_39 (by decide) (fun q9 => absurd q9 (by decide +kernel)) (fun _ => ?_)
  refine lv_aload_n hx hb dX7_finds_42 rfl (lv_at hl 3 rfl) ?_
  refine k_get (D := (dC, dI)) (ci := 7) (v := .ref (p1 72)) (C := RX7) (T := TX7) (N := 92) hx hb hts hinX7 hown hK hP 4 rfl rfl 72 (by decide) w_3 rfl rfl dX7_finds_43 ?_
  refine lv_sipush (v := 1024) hx hb dX7_finds_46 (by decide +kernel) ?_
  refine lv_iload_n hx hb dX7_finds_49 rfl (lv_at hl 1 rfl) ?_
  refine lv_imul hx hb dX7_finds_50 ?_
  refine k_int (v := 8192) (by decide +kernel) ?_
  refine lv_iload_n hx hb dX7_finds_51 rfl (lv_at hl 0 rfl) ?_
  refine lv_iadd hx hb dX7_finds_52 ?_
  refine k_int (v := 8192) (by decide +kernel) ?_
  refine k_iald (v := (-1)) hx hb hK hP 5 0 8192 rfl rfl rfl (Nat.le_of_ble_eq_true rfl) (Nat.le_of_ble_eq_true rfl) rfl dX7_finds_53 ?_
  refine lv_istore (lv' := [(4, .int (-1)), (3, .int 0), (2, .int 8), (0, .ref p0), (1, .int (-1))]) hx hb dX7_finds_54 hl (by decide) rfl (fun ls hl => ?_)
  refine lv_iload hx hb dX7_finds_56 (lv_at hl 0 rfl) ?_
  refine lv_iconst (v := (-1)) hx hb dX7_finds_58 (by decide +kernel) ?_
  refine lv_icmp_eq (tgt := 117) hx hb dX7_finds_59 (by decide) (fun _ => ?_) (fun q9 => absurd q9 (by decide +kernel))
  refine lv_iinc (v := 1) (lv' := [(3, .int 1), (4, .int (-1)), (2, .int 8), (0, .ref p0), (1, .int (-1))]) hx hb dX7_finds_117 hl (k := 1) rfl (by decide +kernel) (by decide) rfl (fun ls hl => ?_)
  refine lv_goto (tgt := 27) hx hb dX7_finds_120 (by decide) ?_
  refine lv_iload_n hx hb dX7_finds_27 rfl (lv_at hl 0 rfl) ?_
  refine lv_iconst (v := 1) hx hb dX7_finds_28 (by decide +kernel) ?_
  refine lv_aload_n hx hb dX7_finds_29 rfl (lv_at hl 3 rfl) ?_
  refine k_get (D := (dC, dI)) (ci := 7) (v := .ref (p1 14)) (C := RX7) (T := TX7) (N := 92) hx hb hts hinX7 hown hK hP 4 rfl rfl 14 (by decide) w_1 rfl rfl dX7_finds_30 ?_
  refine lv_aload_n hx hb dX7_finds_33 rfl (lv_at hl 3 rfl) ?_
  refine k_get (D := (dC, dI)) (ci := 7) (v := .int 0) (C := RX7) (T := TX7) (N := 92) hx hb hts hinX7 hown hK hP 4 rfl rfl 13 (by decide) w_2 rfl rfl dX7_finds_34 ?_
  refine k_iald (v := 0) hx hb hK hP 2 0 0 rfl rfl rfl (Nat.le_of_ble_eq_true rfl) (Nat.le_of_ble_eq_true rfl) rfl dX7_finds_37 ?_
  refine lv_ishl hx hb dX7_finds_38 ?_
  refine k_int (v := 1) (by decide +kernel) ?_
  refine lv_icmp_ge (tgt := 123) hx hb dX7_finds_39 (by decide) (fun _ => ?_) (fun q9 => absurd q9 (by decide +kernel))
  refine lv_iinc (v := 9) (lv' := [(2, .int 9), (3, .int 1), (4, .int (-1)), (0, .ref p0), (1, .int (-1))]) hx hb dX7_finds_123 hl (k := 2) rfl (by decide +kernel) (by decide) rfl (fun ls hl => ?_)
  refine lv_goto (tgt := 11) hx hb dX7_finds_126 (by decide) ?_
  refine lv_iload_n hx hb dX7_finds_11 rfl (lv_at hl 0 rfl) ?_
  refine lv_bipush (v := 8) hx hb dX7_finds_12 (by decide +kernel) ?_
  refine lv_icmp_gt (tgt := 129) hx hb dX7_finds_14 (by decide) (fun _ => ?_) (fun q9 => absurd q9 (by decide +kernel))
  exact k_rv B hP hD hS dX7_finds_129 () [4, 0, 1, 5, 2, 3, 6, 7, 8] rfl rfl (Nat.le_of_ble_eq_true rfl) (Nat.le_of_ble_eq_true rfl) trivial
set_option maxHeartbeats 4000000 in
set_option maxRecDepth 100000 in
theorem c_X7_ends_v0 (l : Launch) (dC : Nat → ClassId) (dI : Nat → Nat → Nat) (cI cJ cZ cM : ClassId) (p0 : Nat) (p1 : Int32) (p2 : Nat → Nat)   : k_Mi l yX7_ends wsX7_ends ({ frames := 4, cells := 0, slots := 0, locals := 112 }) (dC, dI) vwCl (tyy cI cJ cZ cM) [(p0, .inr (7, oM p2 i7 j7)), ((p2 49), .inl (cI, 22, .inl (fun _ => 0))), ((p2 50), .inl (cI, 22, .inl (fun _ => 0))), ((p2 72), .inl (cI, 9216, .inl (fun _ => 0))), ((p2 14), .inl (cI, 2, .inl (fun _ => 0))), ((p2 18), .inl (cI, 2, .inl (fun _ => 0))), ((p2 51), .inl (cI, 22, .inl (fun _ => 0))), ((p2 52), .inl (cI, 22, .inl (fun _ => 0))), ((p2 28), .inl (cI, 2, .inl (upd (fun _ => 0) 0 (-1))))] [.ref p0, .int p1] 0 0 (fun (u9 : (Nat × (Nat → Nat))) => match u9.1 with | 0 => [(p0, .inr (7, oM p2 i7 j7)), ((p2 49), .inl (cI, 22, .inl (fun _ => 0))), ((p2 50), .inl (cI, 22, .inl (fun _ => 0))), ((p2 72), .inl (cI, 9216, .inl (fun _ => 0))), ((p2 14), .inl (cI, 2, .inl (fun _ => 0))), ((p2 18), .inl (cI, 2, .inl (fun _ => 0))), ((p2 51), .inl (cI, 22, .inl (fun _ => 0))), ((p2 52), .inl (cI, 22, .inl (fun _ => 0))), ((p2 28), .inl (cI, 2, .inl (upd (fun _ => 0) 0 (-1))))] | 1 => [(p0, .inr (7, oM p2 i7 j7)), ((p2 49), .inl (cI, 22, .inl (fun _ => 0))), ((p2 50), .inl (cI, 22, .inl (fun _ => 0))), ((p2 72), .inl (cI, 9216, .inl (fun _ => 0))), ((p2 14), .inl (cI, 2, .inl (fun _ => 0))), ((p2 18), .inl (cI, 2, .inl (fun _ => 0))), ((p2 51), .inl (cI, 22, .inl (fun _ => 0))), ((p2 52), .inl (cI, 22, .inl (fun _ => 0))), ((p2 28), .inl (cI, 2, .inl (upd (fun _ => 0) 0 (-1))))] | 2 => [(p0, .inr (7, oM p2 (upd (upd (upd (upd (upd (upd i7 62 0) 63 0) 64 0) 65 0) 66 (-1)) 75 (-1)) j7)), ((p2 49), .inl (cI, 22, .inl (fun _ => 0))), ((p2 50), .inl (cI, 22, .inl (fun _ => 0))), ((p2 72), .inl (cI, 9216, .inl (upd (fun _ => (-1)) 0 0))), ((p2 14), .inl (cI, 2, .inl (fun _ => 0))), ((p2 18), .inl (cI, 2, .inl (fun _ => 0))), ((p2 51), .inl (cI, 22, .inl (fun _ => 0))), ((p2 52), .inl (cI, 22, .inl (fun _ => 0))), ((p2 28), .inl (cI, 2, .inl (upd (fun _ => 0) 0 (-1))))] | _ => []) (fun (r9 : Int32) (u9 : (Nat × (Nat → Nat))) => match u9.1 with | 0 => (p1.toInt < 0) ∧ r9 = (-1) | 1 => (0 ≤ p1.toInt) ∧ (2 < p1.toInt) ∧ r9 = (-1) | 2 => (0 ≤ p1.toInt) ∧ (p1.toInt ≤ 2) ∧ r9 = (-1) | _ => False) := by
  refine fun sz => k_enter (cc := cX7_ends) (maxL := 2) (ret := some (.int)) (Qc := fun A => va_Qi (fun (r9 : Int32) (u9 : (Nat × (Nat → Nat))) => match u9.1 with | 0 => (p1.toInt < 0) ∧ r9 = (-1) | 1 => (0 ≤ p1.toInt) ∧ (2 < p1.toInt) ∧ r9 = (-1) | 2 => (0 ≤ p1.toInt) ∧ (p1.toInt ≤ 2) ∧ r9 = (-1) | _ => False) (fun u => k_B (dC, dI) vwCl (tyy cI cJ cZ cM) A ((fun (u9 : (Nat × (Nat → Nat))) => match u9.1 with | 0 => [(p0, .inr (7, oM p2 i7 j7)), ((p2 49), .inl (cI, 22, .inl (fun _ => 0))), ((p2 50), .inl (cI, 22, .inl (fun _ => 0))), ((p2 72), .inl (cI, 9216, .inl (fun _ => 0))), ((p2 14), .inl (cI, 2, .inl (fun _ => 0))), ((p2 18), .inl (cI, 2, .inl (fun _ => 0))), ((p2 51), .inl (cI, 22, .inl (fun _ => 0))), ((p2 52), .inl (cI, 22, .inl (fun _ => 0))), ((p2 28), .inl (cI, 2, .inl (upd (fun _ => 0) 0 (-1))))] | 1 => [(p0, .inr (7, oM p2 i7 j7)), ((p2 49), .inl (cI, 22, .inl (fun _ => 0))), ((p2 50), .inl (cI, 22, .inl (fun _ => 0))), ((p2 72), .inl (cI, 9216, .inl (fun _ => 0))), ((p2 14), .inl (cI, 2, .inl (fun _ => 0))), ((p2 18), .inl (cI, 2, .inl (fun _ => 0))), ((p2 51), .inl (cI, 22, .inl (fun _ => 0))), ((p2 52), .inl (cI, 22, .inl (fun _ => 0))), ((p2 28), .inl (cI, 2, .inl (upd (fun _ => 0) 0 (-1))))] | 2 => [(p0, .inr (7, oM p2 (upd (upd (upd (upd (upd (upd i7 62 0) 63 0) 64 0) 65 0) 66 (-1)) 75 (-1)) j7)), ((p2 49), .inl (cI, 22, .inl (fun _ => 0))), ((p2 50), .inl (cI, 22, .inl (fun _ => 0))), ((p2 72), .inl (cI, 9216, .inl (upd (fun _ => (-1)) 0 0))), ((p2 14), .inl (cI, 2, .inl (fun _ => 0))), ((p2 18), .inl (cI, 2, .inl (fun _ => 0))), ((p2 51), .inl (cI, 22, .inl (fun _ => 0))), ((p2 52), .inl (cI, 22, .inl (fun _ => 0))), ((p2 28), .inl (cI, 2, .inl (upd (fun _ => 0) 0 (-1))))] | _ => []) u)) A) sz (by decide +kernel) rfl (Nat.le_of_ble_eq_true rfl) (fun p e s m args below meth c A ls H B hP hD hS hl => ?_)
  obtain ⟨hx, hb, hml, hown, hts, hr, hlk, hnm, hK, hA, hN⟩ := id B
  have hown : s.vm.findClass RX7 = some m.cls := hown
  have hl : lv_has ls 2 [(0, .ref p0), (1, .int p1)] := hl
  have w_0 : (Cond.fieldLink RX7 240 "WishSeaModel" "foundRung" "I").before args s = true := hts _ (List.mem_of_getElem? (i := 1) rfl)
  have hinX7 : ∀ w ∈ u_ws RX7 TX7 92, w ∈ wsX7_ends := fun _ h => List.mem_cons_of_mem _ (List.mem_append_right _ h)
  refine lv_iload_n hx hb dX7_ends_0 rfl (lv_at hl 1 rfl) ?_
  refine lv_iconst (v := 0) hx hb dX7_ends_1 (by decide +kernel) ?_
  refine lv_iconst (v := 2) hx hb dX7_ends_2 (by decide +kernel) ?_
  refine k_ci (wc := []) (wr := [(p0, .inr (7, oM p2 i7 j7)), ((p2 49), .inl (cI, 22, .inl (fun _ => 0))), ((p2 50), .inl (cI, 22, .inl (fun _ => 0))), ((p2 72), .inl (cI, 9216, .inl (fun _ => 0))), ((p2 14), .inl (cI, 2, .inl (fun _ => 0))), ((p2 18), .inl (cI, 2, .inl (fun _ => 0))), ((p2 51), .inl (cI, 22, .inl (fun _ => 0))), ((p2 52), .inl (cI, 22, .inl (fun _ => 0))), ((p2 28), .inl (cI, 2, .inl (upd (fun _ => 0) 0 (-1))))]) (fun hPc hDc => va_runS (As := [.int p1, .int 0, .int 2]) (rest := []) ⟨hx, hb, hml, hown, hts⟩ (c_X7_is_v3 l dC dI cI cJ cZ cM p1 H.size) (va_cwS 3 hts gX7_ends_X7_is rfl rfl rfl (by decide +kernel) ⟨(Nat.le_of_ble_eq_true rfl), (Nat.le_of_ble_eq_true rfl)⟩) (k_pS hPc hDc hK hN) rfl rfl hl.1 rfl (lv_room (Nat.le_of_ble_eq_true rfl)) dX7_ends_3 ⟨(Nat.le_of_ble_eq_true rfl), (Nat.le_of_ble_eq_true rfl)⟩) hP hD hS hA [] [0, 1, 2, 3, 4, 5, 6, 7, 8] rfl rfl rfl rfl (by decide) (fun _ => rfl) 0 0 rfl rfl (fun r_1 u_2 H locs hw hP hD hS => ?_)
  obtain ⟨k_u_2, u_u_2⟩ := u_2
  rcases k_u_2 with _ | _ | _ | k_u_2
  · obtain ⟨c_3, rfl⟩ : (p1.toInt < 0) ∧ r_1 = 0 := hw
    have hP : va_P (dC, dI) vwCl [(p0, .inr (7, oM p2 i7 j7)), ((p2 49), .inl (cI, 22, .inl (fun _ => 0))), ((p2 50), .inl (cI, 22, .inl (fun _ => 0))), ((p2 72), .inl (cI, 9216, .inl (fun _ => 0))), ((p2 14), .inl (cI, 2, .inl (fun _ => 0))), ((p2 18), .inl (cI, 2, .inl (fun _ => 0))), ((p2 51), .inl (cI, 22, .inl (fun _ => 0))), ((p2 52), .inl (cI, 22, .inl (fun _ => 0))), ((p2 28), .inl (cI, 2, .inl (upd (fun _ => 0) 0 (-1))))] H := hP
    have hD : va_D A [(p0, .inr (7, oM p2 i7 j7)), ((p2 49), .inl (cI, 22, .inl (fun _ => 0))), ((p2 50), .inl (cI, 22, .inl (fun _ => 0))), ((p2 72), .inl (cI, 9216, .inl (fun _ => 0))), ((p2 14), .inl (cI, 2, .inl (fun _ => 0))), ((p2 18), .inl (cI, 2, .inl (fun _ => 0))), ((p2 51), .inl (cI, 22, .inl (fun _ => 0))), ((p2 52), .inl (cI, 22, .inl (fun _ => 0))), ((p2 28), .inl (cI, 2, .inl (upd (fun _ => 0) 0 (-1))))] := hD
    refine lv_if_ne (tgt := 11) hx hb dX7_ends_6 (by decide) (fun q9 => absurd q9 (by decide +kernel)) (fun _ => ?_)
    refine lv_iconst (v := (-1)) hx hb dX7_ends_9 (by decide +kernel) ?_
    exact k_ri B hP hD hS dX7_ends_10 (0, (fun _ => 0)) [0, 1, 2, 3, 4, 5, 6, 7, 8] rfl rfl rfl (Nat.le_of_ble_eq_true rfl) (Nat.le_of_ble_eq_true rfl) ⟨c_3, rfl⟩
  · obtain ⟨c_4, c_5, rfl⟩ : (0 ≤ p1.toInt) ∧ (2 < p1.toInt) ∧ r_1 = 0 := hw
    have hP : va_P (dC, dI) vwCl [(p0, .inr (7, oM p2 i7 j7)), ((p2 49), .inl (cI, 22, .inl (fun _ => 0))), ((p2 50), .inl (cI, 22, .inl (fun _ => 0))), ((p2 72), .inl (cI, 9216, .inl (fun _ => 0))), ((p2 14), .inl (cI, 2, .inl (fun _ => 0))), ((p2 18), .inl (cI, 2, .inl (fun _ => 0))), ((p2 51), .inl (cI, 22, .inl (fun _ => 0))), ((p2 52), .inl (cI, 22, .inl (fun _ => 0))), ((p2 28), .inl (cI, 2, .inl (upd (fun _ => 0) 0 (-1))))] H := hP
    have hD : va_D A [(p0, .inr (7, oM p2 i7 j7)), ((p2 49), .inl (cI, 22, .inl (fun _ => 0))), ((p2 50), .inl (cI, 22, .inl (fun _ => 0))), ((p2 72), .inl (cI, 9216, .inl (fun _ => 0))), ((p2 14), .inl (cI, 2, .inl (fun _ => 0))), ((p2 18), .inl (cI, 2, .inl (fun _ => 0))), ((p2 51), .inl (cI, 22, .inl (fun _ => 0))), ((p2 52), .inl (cI, 22, .inl (fun _ => 0))), ((p2 28), .inl (cI, 2, .inl (upd (fun _ => 0) 0 (-1))))] := hD
    refine lv_if_ne (tgt := 11) hx hb dX7_ends_6 (by decide) (fun q9 => absurd q9 (by decide +kernel)) (fun _ => ?_)
    refine lv_iconst (v := (-1)) hx hb dX7_ends_9 (by decide +kernel) ?_
    exact k_ri B hP hD hS dX7_ends_10 (1, (fun _ => 0)) [0, 1, 2, 3, 4, 5, 6, 7, 8] rfl rfl rfl (Nat.le_of_ble_eq_true rfl) (Nat.le_of_ble_eq_true rfl) ⟨c_4, c_5, rfl⟩
  · obtain ⟨c_6, c_7, rfl⟩ : (0 ≤ p1.toInt) ∧ (p1.toInt ≤ 2) ∧ r_1 = 1 := hw
    have hP : va_P (dC, dI) vwCl [(p0, .inr (7, oM p2 i7 j7)), ((p2 49), .inl (cI, 22, .inl (fun _ => 0))), ((p2 50), .inl (cI, 22, .inl (fun _ => 0))), ((p2 72), .inl (cI, 9216, .inl (fun _ => 0))), ((p2 14), .inl (cI, 2, .inl (fun _ => 0))), ((p2 18), .inl (cI, 2, .inl (fun _ => 0))), ((p2 51), .inl (cI, 22, .inl (fun _ => 0))), ((p2 52), .inl (cI, 22, .inl (fun _ => 0))), ((p2 28), .inl (cI, 2, .inl (upd (fun _ => 0) 0 (-1))))] H := hP
    have hD : va_D A [(p0, .inr (7, oM p2 i7 j7)), ((p2 49), .inl (cI, 22, .inl (fun _ => 0))), ((p2 50), .inl (cI, 22, .inl (fun _ => 0))), ((p2 72), .inl (cI, 9216, .inl (fun _ => 0))), ((p2 14), .inl (cI, 2, .inl (fun _ => 0))), ((p2 18), .inl (cI, 2, .inl (fun _ => 0))), ((p2 51), .inl (cI, 22, .inl (fun _ => 0))), ((p2 52), .inl (cI, 22, .inl (fun _ => 0))), ((p2 28), .inl (cI, 2, .inl (upd (fun _ => 0) 0 (-1))))] := hD
    refine lv_if_ne (tgt := 11) hx hb dX7_ends_6 (by decide) (fun _ => ?_) (fun q9 => absurd q9 (by decide +kernel))
    refine lv_aload_n hx hb dX7_ends_11 rfl (lv_at hl 0 rfl) ?_
    refine lv_iconst (v := (-1)) hx hb dX7_ends_12 (by decide +kernel) ?_
    refine k_cv (wc := [(p0, .inr (7, oM p2 i7 j7)), ((p2 49), .inl (cI, 22, .inl (fun _ => 0))), ((p2 50), .inl (cI, 22, .inl (fun _ => 0))), ((p2 72), .inl (cI, 9216, .inl (fun _ => 0))), ((p2 14), .inl (cI, 2, .inl (fun _ => 0))), ((p2 18), .inl (cI, 2, .inl (fun _ => 0))), ((p2 51), .inl (cI, 22, .inl (fun _ => 0))), ((p2 52), .inl (cI, 22, .inl (fun _ => 0))), ((p2 28), .inl (cI, 2, .inl (upd (fun _ => 0) 0 (-1))))]) (wr := []) (fun hPc hDc => va_runV (As := [.int (-1)]) (rest := []) ⟨hx, hb, hml, hown, hts⟩ (c_X7_finds_v1 l dC dI cI cJ cZ cM p0 p2 H.size) (cwV 1 hts gX7_ends_X7_finds rfl rfl rfl (by decide +kernel) ⟨(Nat.le_of_ble_eq_true rfl), (Nat.le_of_ble_eq_true rfl)⟩) (k_pV hPc hDc hK hN hP (q0 := 0) (ci := 7) rfl rfl) rfl rfl hl.1 rfl (lv_room (Nat.le_of_ble_eq_true rfl)) dX7_ends_13 ⟨(Nat.le_of_ble_eq_true rfl), (Nat.le_of_ble_eq_true rfl)⟩) hP hD hS hA [0, 1, 2, 3, 4, 5, 6, 7, 8] [] rfl rfl rfl rfl (by decide) (fun _ => rfl) 0 0 rfl rfl (fun u_9 H locs hw hP hD hS => ?_)
    have hP : va_P (dC, dI) vwCl [(p0, .inr (7, oM p2 (upd (upd (upd (upd (upd (upd i7 62 0) 63 0) 64 0) 65 0) 66 (-1)) 75 (-1)) j7)), ((p2 49), .inl (cI, 22, .inl (fun _ => 0))), ((p2 50), .inl (cI, 22, .inl (fun _ => 0))), ((p2 72), .inl (cI, 9216, .inl (upd (fun _ => (-1)) 0 0))), ((p2 14), .inl (cI, 2, .inl (fun _ => 0))), ((p2 18), .inl (cI, 2, .inl (fun _ => 0))), ((p2 51), .inl (cI, 22, .inl (fun _ => 0))), ((p2 52), .inl (cI, 22, .inl (fun _ => 0))), ((p2 28), .inl (cI, 2, .inl (upd (fun _ => 0) 0 (-1))))] H := hP
    have hD : va_D A [(p0, .inr (7, oM p2 (upd (upd (upd (upd (upd (upd i7 62 0) 63 0) 64 0) 65 0) 66 (-1)) 75 (-1)) j7)), ((p2 49), .inl (cI, 22, .inl (fun _ => 0))), ((p2 50), .inl (cI, 22, .inl (fun _ => 0))), ((p2 72), .inl (cI, 9216, .inl (upd (fun _ => (-1)) 0 0))), ((p2 14), .inl (cI, 2, .inl (fun _ => 0))), ((p2 18), .inl (cI, 2, .inl (fun _ => 0))), ((p2 51), .inl (cI, 22, .inl (fun _ => 0))), ((p2 52), .inl (cI, 22, .inl (fun _ => 0))), ((p2 28), .inl (cI, 2, .inl (upd (fun _ => 0) 0 (-1))))] := hD
    refine lv_aload_n hx hb dX7_ends_16 rfl (lv_at hl 0 rfl) ?_
    refine k_get (D := (dC, dI)) (ci := 7) (v := .int (-1)) (C := RX7) (T := TX7) (N := 92) hx hb hts hinX7 hown hK hP 0 rfl rfl 75 (by decide) w_0 rfl rfl dX7_ends_17 ?_
    refine lv_iconst (v := (-1)) hx hb dX7_ends_20 (by decide +kernel) ?_
    refine lv_icmp_ne (tgt := 28) hx hb dX7_ends_21 (by decide) (fun q9 => absurd q9 (by decide +kernel)) (fun _ => ?_)
    refine lv_iconst (v := (-1)) hx hb dX7_ends_24 (by decide +kernel) ?_
    refine lv_goto (tgt := 55) hx hb dX7_ends_25 (by decide) ?_
    exact k_ri B hP hD hS dX7_ends_55 (2, (fun _ => 0)) [0, 1, 2, 3, 4, 5, 6, 7, 8] rfl rfl rfl (Nat.le_of_ble_eq_true rfl) (Nat.le_of_ble_eq_true rfl) ⟨c_6, c_7, rfl⟩
  · exact False.elim hw
