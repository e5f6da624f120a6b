set_option maxHeartbeats 4000000 in
set_option maxRecDepth 100000 in
theorem c_X7_remembers_v0 (l : Launch) (dC : Nat → ClassId) (dI : Nat → Nat → Nat) (cI cJ cZ cM : ClassId) (p0 : Nat) (p1 : Nat → Nat)   : k_Mv l yX7_remembers wsX7_remembers ({ frames := 1, cells := 0, slots := 0, locals := 40 }) (dC, dI) vwCl (tyy cI cJ cZ cM) [(p0, .inr (7, oM p1 (upd (upd i7 1 0) 71 0) j7)), ((p1 49), .inl (cI, 22, .inl (upd (fun _ => 0) 1 0))), ((p1 50), .inl (cI, 22, .inl (upd (fun _ => 0) 1 0))), ((p1 52), .inl (cI, 22, .inl (upd (fun _ => 0) 1 0)))] [.ref p0, .int 0] 0 0 (fun (u9 : Unit) => [(p0, .inr (7, oM p1 (upd (upd (upd (upd (upd (upd i7 1 0) 67 0) 68 0) 69 0) 70 0) 71 0) j7)), ((p1 49), .inl (cI, 22, .inl (upd (fun _ => 0) 1 0))), ((p1 50), .inl (cI, 22, .inl (upd (fun _ => 0) 1 0))), ((p1 52), .inl (cI, 22, .inl (upd (fun _ => 0) 1 0)))]) (fun (u9 : Unit) => True) := by
  refine fun sz => k_enter (cc := cX7_remembers) (maxL := 2) (ret := none) (Qc := fun A => va_Qv (fun (u9 : Unit) => True) (fun u => k_B (dC, dI) vwCl (tyy cI cJ cZ cM) A ((fun (u9 : Unit) => [(p0, .inr (7, oM p1 (upd (upd (upd (upd (upd (upd i7 1 0) 67 0) 68 0) 69 0) 70 0) 71 0) j7)), ((p1 49), .inl (cI, 22, .inl (upd (fun _ => 0) 1 0))), ((p1 50), .inl (cI, 22, .inl (upd (fun _ => 0) 1 0))), ((p1 52), .inl (cI, 22, .inl (upd (fun _ => 0) 1 0)))]) u)) A) sz (by decide +kernel) rfl (Nat.le_of_ble_eq_true rfl) (fun p e s m args below meth c A ls H B hP hD hS hl => ?_)
  obtain ⟨hx, hb, hml, hown, hts, hr, hlk, hnm, hK, hA, hN⟩ := id B
  have hown : s.vm.findClass RX7 = some m.cls := hown
  have hl : lv_has ls 2 [(0, .ref p0), (1, .int 0)] := hl
  have w_0 : (Cond.fieldLink RX7 216 "WishSeaModel" "wentEnd" "I").before args s = true := hts _ (List.mem_of_getElem? (i := 1) rfl)
  have w_1 : (Cond.fieldLink RX7 162 "WishSeaModel" "hadOf" "[I").before args s = true := hts _ (List.mem_of_getElem? (i := 2) rfl)
  have w_2 : (Cond.fieldLink RX7 219 "WishSeaModel" "wentHad" "I").before args s = true := hts _ (List.mem_of_getElem? (i := 3) rfl)
  have w_3 : (Cond.fieldLink RX7 165 "WishSeaModel" "seaOf" "[I").before args s = true := hts _ (List.mem_of_getElem? (i := 4) rfl)
  have w_4 : (Cond.fieldLink RX7 222 "WishSeaModel" "wentSea" "I").before args s = true := hts _ (List.mem_of_getElem? (i := 5) rfl)
  have w_5 : (Cond.fieldLink RX7 171 "WishSeaModel" "dayOf" "[I").before args s = true := hts _ (List.mem_of_getElem? (i := 6) rfl)
  have w_6 : (Cond.fieldLink RX7 225 "WishSeaModel" "wentDay" "I").before args s = true := hts _ (List.mem_of_getElem? (i := 7) rfl)
  have w_7 : (Cond.fieldLink RX7 228 "WishSeaModel" "wentMost" "I").before args s = true := hts _ (List.mem_of_getElem? (i := 8) rfl)
  have hinX7 : ∀ w ∈ u_ws RX7 TX7 92, w ∈ wsX7_remembers := fun _ h => List.mem_cons_of_mem _ (List.mem_append_right _ h)
  refine lv_aload_n hx hb dX7_remembers_0 rfl (lv_at hl 0 rfl) ?_
  refine lv_iload_n hx hb dX7_remembers_1 rfl (lv_at hl 1 rfl) ?_
  refine k_put (D := (dC, dI)) (ci := 7) (v := .int 0) (C := RX7) (T := TX7) (N := 92) (ws' := [(p0, .inr (7, oM p1 (upd (upd (upd i7 1 0) 67 0) 71 0) j7)), ((p1 49), .inl (cI, 22, .inl (upd (fun _ => 0) 1 0))), ((p1 50), .inl (cI, 22, .inl (upd (fun _ => 0) 1 0))), ((p1 52), .inl (cI, 22, .inl (upd (fun _ => 0) 1 0)))]) hx hb hts hinX7 tyX7 tyX7_ok nmX7 hown hK hP hD hS 0 rfl rfl 67 (by decide) w_0 rfl rfl rfl rfl (Nat.le_of_ble_eq_true rfl) rfl dX7_remembers_2 (fun H locs hP hD hS => ?_)
  refine lv_aload_n hx hb dX7_remembers_5 rfl (lv_at hl 0 rfl) ?_
  refine lv_aload_n hx hb dX7_remembers_6 rfl (lv_at hl 0 rfl) ?_
  refine k_get (D := (dC, dI)) (ci := 7) (v := .ref (p1 49)) (C := RX7) (T := TX7) (N := 92) hx hb hts hinX7 hown hK hP 0 rfl rfl 49 (by decide) w_1 rfl rfl dX7_remembers_7 ?_
  refine lv_iconst (v := 1) hx hb dX7_remembers_10 (by decide +kernel) ?_
  refine k_iald (v := 0) hx hb hK hP 1 0 1 rfl rfl rfl (Nat.le_of_ble_eq_true rfl) (Nat.le_of_ble_eq_true rfl) rfl dX7_remembers_11 ?_
  refine k_put (D := (dC, dI)) (ci := 7) (v := .int 0) (C := RX7) (T := TX7) (N := 92) (ws' := [(p0, .inr (7, oM p1 (upd (upd (upd (upd i7 1 0) 67 0) 68 0) 71 0) j7)), ((p1 49), .inl (cI, 22, .inl (upd (fun _ => 0) 1 0))), ((p1 50), .inl (cI, 22, .inl (upd (fun _ => 0) 1 0))), ((p1 52), .inl (cI, 22, .inl (upd (fun _ => 0) 1 0)))]) hx hb hts hinX7 tyX7 tyX7_ok nmX7 hown hK hP hD hS 0 rfl rfl 68 (by decide) w_2 rfl rfl rfl rfl (Nat.le_of_ble_eq_true rfl) rfl dX7_remembers_12 (fun H locs hP hD hS => ?_)
  refine lv_aload_n hx hb dX7_remembers_15 rfl (lv_at hl 0 rfl) ?_
  refine lv_aload_n hx hb dX7_remembers_16 rfl (lv_at hl 0 rfl) ?_
  refine k_get (D := (dC, dI)) (ci := 7) (v := .ref (p1 50)) (C := RX7) (T := TX7) (N := 92) hx hb hts hinX7 hown hK hP 0 rfl rfl 50 (by decide) w_3 rfl rfl dX7_remembers_17 ?_
  refine lv_iconst (v := 1) hx hb dX7_remembers_20 (by decide +kernel) ?_
  refine k_iald (v := 0) hx hb hK hP 2 0 1 rfl rfl rfl (Nat.le_of_ble_eq_true rfl) (Nat.le_of_ble_eq_true rfl) rfl dX7_remembers_21 ?_
  refine k_put (D := (dC, dI)) (ci := 7) (v := .int 0) (C := RX7) (T := TX7) (N := 92) (ws' := [(p0, .inr (7, oM p1 (upd (upd (upd (upd (upd i7 1 0) 67 0) 68 0) 69 0) 71 0) j7)), ((p1 49), .inl (cI, 22, .inl (upd (fun _ => 0) 1 0))), ((p1 50), .inl (cI, 22, .inl (upd (fun _ => 0) 1 0))), ((p1 52), .inl (cI, 22, .inl (upd (fun _ => 0) 1 0)))]) hx hb hts hinX7 tyX7 tyX7_ok nmX7 hown hK hP hD hS 0 rfl rfl 69 (by decide) w_4 rfl rfl rfl rfl (Nat.le_of_ble_eq_true rfl) rfl dX7_remembers_22 (fun H locs hP hD hS => ?_)
  refine lv_aload_n hx hb dX7_remembers_25 rfl (lv_at hl 0 rfl) ?_
  refine lv_aload_n hx hb dX7_remembers_26 rfl (lv_at hl 0 rfl) ?_
  refine k_get (D := (dC, dI)) (ci := 7) (v := .ref (p1 52)) (C := RX7) (T := TX7) (N := 92) hx hb hts hinX7 hown hK hP 0 rfl rfl 52 (by decide) w_5 rfl rfl dX7_remembers_27 ?_
  refine lv_iconst (v := 1) hx hb dX7_remembers_30 (by decide +kernel) ?_
  refine k_iald (v := 0) hx hb hK hP 3 0 1 rfl rfl rfl (Nat.le_of_ble_eq_true rfl) (Nat.le_of_ble_eq_true rfl) rfl dX7_remembers_31 ?_
  refine k_put (D := (dC, dI)) (ci := 7) (v := .int 0) (C := RX7) (T := TX7) (N := 92) (ws' := [(p0, .inr (7, oM p1 (upd (upd (upd (upd (upd (upd i7 1 0) 67 0) 68 0) 69 0) 70 0) 71 0) j7)), ((p1 49), .inl (cI, 22, .inl (upd (fun _ => 0) 1 0))), ((p1 50), .inl (cI, 22, .inl (upd (fun _ => 0) 1 0))), ((p1 52), .inl (cI, 22, .inl (upd (fun _ => 0) 1 0)))]) hx hb hts hinX7 tyX7 tyX7_ok nmX7 hown hK hP hD hS 0 rfl rfl 70 (by decide) w_6 rfl rfl rfl rfl (Nat.le_of_ble_eq_true rfl) rfl dX7_remembers_32 (fun H locs hP hD hS => ?_)
  refine lv_aload_n hx hb dX7_remembers_35 rfl (lv_at hl 0 rfl) ?_
  refine lv_aload_n hx hb dX7_remembers_36 rfl (lv_at hl 0 rfl) ?_
  refine k_get (D := (dC, dI)) (ci := 7) (v := .int 0) (C := RX7) (T := TX7) (N := 92) hx hb hts hinX7 hown hK hP 0 rfl rfl 69 (by decide) w_4 rfl rfl dX7_remembers_37 ?_
  refine lv_aload_n hx hb dX7_remembers_40 rfl (lv_at hl 0 rfl) ?_
  refine k_get (D := (dC, dI)) (ci := 7) (v := .int 0) (C := RX7) (T := TX7) (N := 92) hx hb hts hinX7 hown hK hP 0 rfl rfl 71 (by decide) w_7 rfl rfl dX7_remembers_41 ?_
  refine lv_icmp_le (tgt := 54) hx hb dX7_remembers_44 (by decide) (fun _ => ?_) (fun q9 => absurd q9 (by decide +kernel))
  refine lv_aload_n hx hb dX7_remembers_54 rfl (lv_at hl 0 rfl) ?_
  refine k_get (D := (dC, dI)) (ci := 7) (v := .int 0) (C := RX7) (T := TX7) (N := 92) hx hb hts hinX7 hown hK hP 0 rfl rfl 71 (by decide) w_7 rfl rfl dX7_remembers_55 ?_
  refine k_put (D := (dC, dI)) (ci := 7) (v := .int 0) (C := RX7) (T := TX7) (N := 92) (ws' := [(p0, .inr (7, oM p1 (upd (upd (upd (upd (upd (upd i7 1 0) 67 0) 68 0) 69 0) 70 0) 71 0) j7)), ((p1 49), .inl (cI, 22, .inl (upd (fun _ => 0) 1 0))), ((p1 50), .inl (cI, 22, .inl (upd (fun _ => 0) 1 0))), ((p1 52), .inl (cI, 22, .inl (upd (fun _ => 0) 1 0)))]) hx hb hts hinX7 tyX7 tyX7_ok nmX7 hown hK hP hD hS 0 rfl rfl 71 (by decide) w_7 rfl rfl rfl rfl (Nat.le_of_ble_eq_true rfl) rfl dX7_remembers_58 (fun H locs hP hD hS => ?_)
  exact k_rv B hP hD hS dX7_remembers_61 () [0, 1, 2, 3] rfl rfl (Nat.le_of_ble_eq_true rfl) (Nat.le_of_ble_eq_true rfl) trivial
set_option maxHeartbeats 4000000 in
set_option maxRecDepth 100000 in
theorem c_X7_row_v0 (l : Launch) (dC : Nat → ClassId) (dI : Nat → Nat → Nat) (cI cJ cZ cM : ClassId) (p0 : Nat) (p1 : Nat → Nat)   : k_Mi l yX7_row wsX7_row ({ frames := 2, cells := 0, slots := 0, locals := 63 }) (dC, dI) vwCl (tyy cI cJ cZ cM) [(p0, .inr (7, oM p1 i7 j7)), ((p1 49), .inl (cI, 22, .inl (fun _ => 0))), ((p1 50), .inl (cI, 22, .inl (fun _ => 0))), ((p1 51), .inl (cI, 22, .inl (fun _ => 0))), ((p1 52), .inl (cI, 22, .inl (fun _ => 0))), ((p1 53), .inl (cI, 22, .inl (fun _ => 0)))] [.ref p0] 0 0 (fun (u9 : Unit) => [(p0, .inr (7, oM p1 (upd (upd (upd (upd (upd (upd i7 1 0) 67 0) 68 0) 69 0) 70 0) 71 0) j7)), ((p1 49), .inl (cI, 22, .inl (upd (fun _ => 0) 1 0))), ((p1 50), .inl (cI, 22, .inl (upd (fun _ => 0) 1 0))), ((p1 51), .inl (cI, 22, .inl (upd (fun _ => 0) 1 0))), ((p1 52), .inl (cI, 22, .inl (upd (fun _ => 0) 1 0))), ((p1 53), .inl (cI, 22, .inl (upd (fun _ => 0) 1 0)))]) (fun (r9 : Int32) (u9 : Unit) => r9 = 0) := by
  refine fun sz => k_enter (cc := cX7_row) (maxL := 5) (ret := some (.int)) (Qc := fun A => va_Qi (fun (r9 : Int32) (u9 : Unit) => r9 = 0) (fun u => k_B (dC, dI) vwCl (tyy cI cJ cZ cM) A ((fun (u9 : Unit) => [(p0, .inr (7, oM p1 (upd (upd (upd (upd (upd (upd i7 1 0) 67 0) 68 0) 69 0) 70 0) 71 0) j7)), ((p1 49), .inl (cI, 22, .inl (upd (fun _ => 0) 1 0))), ((p1 50), .inl (cI, 22, .inl (upd (fun _ => 0) 1 0))), ((p1 51), .inl (cI, 22, .inl (upd (fun _ => 0) 1 0))), ((p1 52), .inl (cI, 22, .inl (upd (fun _ => 0) 1 0))), ((p1 53), .inl (cI, 22, .inl (upd (fun _ => 0) 1 0)))]) u)) A) sz (by decide +kernel) rfl (Nat.le_of_ble_eq_true rfl) (fun p e s m args below meth c A ls H B hP hD hS hl => ?_)
  obtain ⟨hx, hb, hml, hown, hts, hr, hlk, hnm, hK, hA, hN⟩ := id B
  have hown : s.vm.findClass RX7 = some m.cls := hown
  have hl : lv_has ls 5 [(0, .ref p0)] := hl
  have w_0 : (Cond.fieldLink RX7 13 "WishSeaModel" "taped" "I").before args s = true := hts _ (List.mem_of_getElem? (i := 1) rfl)
  have w_1 : (Cond.fieldLink RX7 228 "WishSeaModel" "wentMost" "I").before args s = true := hts _ (List.mem_of_getElem? (i := 2) rfl)
  have hinX7 : ∀ w ∈ u_ws RX7 TX7 92, w ∈ wsX7_row := fun _ h => List.mem_cons_of_mem _ (List.mem_append_right _ h)
  refine lv_aload_n hx hb dX7_row_0 rfl (lv_at hl 0 rfl) ?_
  refine k_get (D := (dC, dI)) (ci := 7) (v := .int 0) (C := RX7) (T := TX7) (N := 92) hx hb hts hinX7 hown hK hP 0 rfl rfl 1 (by decide) w_0 rfl rfl dX7_row_1 ?_
  refine lv_istore_n (lv' := [(1, .int 0), (0, .ref p0)]) hx hb dX7_row_4 rfl hl (by decide) rfl (fun ls hl => ?_)
  refine lv_aload_n hx hb dX7_row_5 rfl (lv_at hl 1 rfl) ?_
  refine lv_iconst (v := 0) hx hb dX7_row_6 (by decide +kernel) ?_
  refine k_put (D := (dC, dI)) (ci := 7) (v := .int 0) (C := RX7) (T := TX7) (N := 92) (ws' := [(p0, .inr (7, oM p1 (upd i7 1 0) j7)), ((p1 49), .inl (cI, 22, .inl (fun _ => 0))), ((p1 50), .inl (cI, 22, .inl (fun _ => 0))), ((p1 51), .inl (cI, 22, .inl (fun _ => 0))), ((p1 52), .inl (cI, 22, .inl (fun _ => 0))), ((p1 53), .inl (cI, 22, .inl (fun _ => 0)))]) hx hb hts hinX7 tyX7 tyX7_ok nmX7 hown hK hP hD hS 0 rfl rfl 1 (by decide) w_0 rfl rfl rfl rfl (Nat.le_of_ble_eq_true rfl) rfl dX7_row_7 (fun H locs hP hD hS => ?_)
  refine lv_iload_n hx hb dX7_row_10 rfl (lv_at hl 0 rfl) ?_
  refine lv_bipush (v := 40) hx hb dX7_row_11 (by decide +kernel) ?_
  refine lv_icmp_gt (tgt := 25) hx hb dX7_row_13 (by decide) (fun q9 => absurd q9 (by decide +kernel)) (fun _ => ?_)
  refine lv_aload_n hx hb dX7_row_16 rfl (lv_at hl 1 rfl) ?_
  refine lv_iload_n hx hb dX7_row_17 rfl (lv_at hl 0 rfl) ?_
  refine lv_iconst (v := 1) hx hb dX7_row_18 (by decide +kernel) ?_
  refine k_ci (wc := []) (wr := [(p0, .inr (7, oM p1 (upd i7 1 0) j7)), ((p1 49), .inl (cI, 22, .inl (fun _ => 0))), ((p1 50), .inl (cI, 22, .inl (fun _ => 0))), ((p1 51), .inl (cI, 22, .inl (fun _ => 0))), ((p1 52), .inl (cI, 22, .inl (fun _ => 0))), ((p1 53), .inl (cI, 22, .inl (fun _ => 0)))]) (fun hPc hDc => va_runV (As := [.int 0, .int 1]) (rest := []) ⟨hx, hb, hml, hown, hts⟩ (c_X7_areWishes_v0 l dC dI cI cJ cZ cM p0 H.size) (cwV 2 hts gX7_row_X7_areWishes rfl rfl rfl (by decide +kernel) ⟨(Nat.le_of_ble_eq_true rfl), (Nat.le_of_ble_eq_true rfl)⟩) (k_pV hPc hDc hK hN hP (q0 := 0) (ci := 7) rfl rfl) rfl rfl hl.1 rfl (lv_room (Nat.le_of_ble_eq_true rfl)) dX7_row_19 ⟨(Nat.le_of_ble_eq_true rfl), (Nat.le_of_ble_eq_true rfl)⟩) hP hD hS hA [] [0, 1, 2, 3, 4, 5] rfl rfl rfl rfl (by decide) (fun _ => rfl) 0 0 rfl rfl (fun r_1 u_2 H locs hw hP hD hS => ?_)
  obtain rfl : r_1 = 1 := hw
  have hP : va_P (dC, dI) vwCl [(p0, .inr (7, oM p1 (upd i7 1 0) j7)), ((p1 49), .inl (cI, 22, .inl (fun _ => 0))), ((p1 50), .inl (cI, 22, .inl (fun _ => 0))), ((p1 51), .inl (cI, 22, .inl (fun _ => 0))), ((p1 52), .inl (cI, 22, .inl (fun _ => 0))), ((p1 53), .inl (cI, 22, .inl (fun _ => 0)))] H := hP
  have hD : va_D A [(p0, .inr (7, oM p1 (upd i7 1 0) j7)), ((p1 49), .inl (cI, 22, .inl (fun _ => 0))), ((p1 50), .inl (cI, 22, .inl (fun _ => 0))), ((p1 51), .inl (cI, 22, .inl (fun _ => 0))), ((p1 52), .inl (cI, 22, .inl (fun _ => 0))), ((p1 53), .inl (cI, 22, .inl (fun _ => 0)))] := hD
  refine lv_if_ne (tgt := 31) hx hb dX7_row_22 (by decide) (fun _ => ?_) (fun q9 => absurd q9 (by decide +kernel))
  refine lv_aload_n hx hb dX7_row_31 rfl (lv_at hl 1 rfl) ?_
  refine lv_iconst (v := 1) hx hb dX7_row_32 (by decide +kernel) ?_
  refine lv_iconst (v := 0) hx hb dX7_row_33 (by decide +kernel) ?_
  refine k_cv (wc := [(p0, .inr (7, oM p1 (upd i7 1 0) j7)), ((p1 49), .inl (cI, 22, .inl (fun _ => 0))), ((p1 50), .inl (cI, 22, .inl (fun _ => 0))), ((p1 51), .inl (cI, 22, .inl (fun _ => 0))), ((p1 52), .inl (cI, 22, .inl (fun _ => 0))), ((p1 53), .inl (cI, 22, .inl (fun _ => 0)))]) (wr := []) (fun hPc hDc => va_runV (As := [.int 1, .int 0]) (rest := []) ⟨hx, hb, hml, hown, hts⟩ (c_X7_copies_v1 l dC dI cI cJ cZ cM p0 p1 H.size) (cwV 2 hts gX7_row_X7_copies rfl rfl rfl (by decide +kernel) ⟨(Nat.le_of_ble_eq_true rfl), (Nat.le_of_ble_eq_true rfl)⟩) (k_pV hPc hDc hK hN hP (q0 := 0) (ci := 7) rfl rfl) rfl rfl hl.1 rfl (lv_room (Nat.le_of_ble_eq_true rfl)) dX7_row_34 ⟨(Nat.le_of_ble_eq_true rfl), (Nat.le_of_ble_eq_true rfl)⟩) hP hD hS hA [0, 1, 2, 3, 4, 5] [] rfl rfl rfl rfl (by decide) (fun _ => rfl) 0 0 rfl rfl (fun u_4 H locs hw hP hD hS => ?_)
  have hP : va_P (dC, dI) vwCl [(p0, .inr (7, oM p1 (upd i7 1 0) j7)), ((p1 49), .inl (cI, 22, .inl (upd (fun _ => 0) 1 0))), ((p1 50), .inl (cI, 22, .inl (upd (fun _ => 0) 1 0))), ((p1 51), .inl (cI, 22, .inl (upd (fun _ => 0) 1 0))), ((p1 52), .inl (cI, 22, .inl (upd (fun _ => 0) 1 0))), ((p1 53), .inl (cI, 22, .inl (upd (fun _ => 0) 1 0)))] H := hP
  have hD : va_D A [(p0, .inr (7, oM p1 (upd i7 1 0) j7)), ((p1 49), .inl (cI, 22, .inl (upd (fun _ => 0) 1 0))), ((p1 50), .inl (cI, 22, .inl (upd (fun _ => 0) 1 0))), ((p1 51), .inl (cI, 22, .inl (upd (fun _ => 0) 1 0))), ((p1 52), .inl (cI, 22, .inl (upd (fun _ => 0) 1 0))), ((p1 53), .inl (cI, 22, .inl (upd (fun _ => 0) 1 0)))] := hD
  refine lv_aload_n hx hb dX7_row_37 rfl (lv_at hl 1 rfl) ?_
  refine lv_iconst (v := 0) hx hb dX7_row_38 (by decide +kernel) ?_
  refine k_put (D := (dC, dI)) (ci := 7) (v := .int 0) (C := RX7) (T := TX7) (N := 92) (ws' := [(p0, .inr (7, oM p1 (upd (upd i7 1 0) 71 0) j7)), ((p1 49), .inl (cI, 22, .inl (upd (fun _ => 0) 1 0))), ((p1 50), .inl (cI, 22, .inl (upd (fun _ => 0) 1 0))), ((p1 51), .inl (cI, 22, .inl (upd (fun _ => 0) 1 0))), ((p1 52), .inl (cI, 22, .inl (upd (fun _ => 0) 1 0))), ((p1 53), .inl (cI, 22, .inl (upd (fun _ => 0) 1 0)))]) hx hb hts hinX7 tyX7 tyX7_ok nmX7 hown hK hP hD hS 0 rfl rfl 71 (by decide) w_1 rfl rfl rfl rfl (Nat.le_of_ble_eq_true rfl) rfl dX7_row_39 (fun H locs hP hD hS => ?_)
  refine lv_aload_n hx hb dX7_row_42 rfl (lv_at hl 1 rfl) ?_
  refine lv_iconst (v := 0) hx hb dX7_row_43 (by decide +kernel) ?_
  refine k_cv (wc := [(p0, .inr (7, oM p1 (upd (upd i7 1 0) 71 0) j7)), ((p1 49), .inl (cI, 22, .inl (upd (fun _ => 0) 1 0))), ((p1 50), .inl (cI, 22, .inl (upd (fun _ => 0) 1 0))), ((p1 52), .inl (cI, 22, .inl (upd (fun _ => 0) 1 0)))]) (wr := [((p1 51), .inl (cI, 22, .inl (upd (fun _ => 0) 1 0))), ((p1 53), .inl (cI, 22, .inl (upd (fun _ => 0) 1 0)))]) (fun hPc hDc => va_runV (As := [.int 0]) (rest := []) ⟨hx, hb, hml, hown, hts⟩ (c_X7_remembers_v0 l dC dI cI cJ cZ cM p0 p1 H.size) (cwV 1 hts gX7_row_X7_remembers rfl rfl rfl (by decide +kernel) ⟨(Nat.le_of_ble_eq_true rfl), (Nat.le_of_ble_eq_true rfl)⟩) (k_pV hPc hDc hK hN hP (q0 := 0) (ci := 7) rfl rfl) rfl rfl hl.1 rfl (lv_room (Nat.le_of_ble_eq_true rfl)) dX7_row_44 ⟨(Nat.le_of_ble_eq_true rfl), (Nat.le_of_ble_eq_true rfl)⟩) hP hD hS hA [0, 1, 2, 4] [3, 5] rfl rfl rfl rfl (by decide) (fun _ => rfl) 0 0 rfl rfl (fun u_6 H locs hw hP hD hS => ?_)
  have hP : va_P (dC, dI) vwCl [((p1 51), .inl (cI, 22, .inl (upd (fun _ => 0) 1 0))), ((p1 53), .inl (cI, 22, .inl (upd (fun _ => 0) 1 0))), (p0, .inr (7, oM p1 (upd (upd (upd (upd (upd (upd i7 1 0) 67 0) 68 0) 69 0) 70 0) 71 0) j7)), ((p1 49), .inl (cI, 22, .inl (upd (fun _ => 0) 1 0))), ((p1 50), .inl (cI, 22, .inl (upd (fun _ => 0) 1 0))), ((p1 52), .inl (cI, 22, .inl (upd (fun _ => 0) 1 0)))] H := hP
  have hD : va_D A [((p1 51), .inl (cI, 22, .inl (upd (fun _ => 0) 1 0))), ((p1 53), .inl (cI, 22, .inl (upd (fun _ => 0) 1 0))), (p0, .inr (7, oM p1 (upd (upd (upd (upd (upd (upd i7 1 0) 67 0) 68 0) 69 0) 70 0) 71 0) j7)), ((p1 49), .inl (cI, 22, .inl (upd (fun _ => 0) 1 0))), ((p1 50), .inl (cI, 22, .inl (upd (fun _ => 0) 1 0))), ((p1 52), .inl (cI, 22, .inl (upd (fun _ => 0) 1 0)))] := hD
  refine lv_iconst (v := 0) hx hb dX7_row_47 (by decide +kernel) ?_
  refine lv_istore_n (lv' := [(2, .int 0), (1, .int 0), (0, .ref p0)]) hx hb dX7_row_48 rfl hl (by decide) rfl (fun ls hl => ?_)
  refine lv_iconst (v := 1) hx hb dX7_row_49 (by decide +kernel) ?_
  refine lv_istore_n (lv' := [(3, .int 1), (2, .int 0), (1, .int 0), (0, .ref p0)]) hx hb dX7_row_50 rfl hl (by decide) rfl (fun ls hl => ?_)
  refine lv_iload_n hx hb dX7_row_51 rfl (lv_at hl 1 rfl) ?_
  refine lv_iload_n hx hb dX7_row_52 rfl (lv_at hl 2 rfl) ?_
  refine lv_icmp_ge (tgt := 107) hx hb dX7_row_53 (by decide) (fun _ => ?_) (fun q9 => absurd q9 (by decide +kernel))
  refine lv_iload_n hx hb dX7_row_107 rfl (lv_at hl 1 rfl) ?_
  exact k_ri B hP hD hS dX7_row_108 () [2, 3, 4, 0, 5, 1] rfl rfl rfl (Nat.le_of_ble_eq_true rfl) (Nat.le_of_ble_eq_true rfl) rfl
set_option maxHeartbeats 4000000 in
set_option maxRecDepth 100000 in
theorem c_X7_went_v0 (l : Launch) (dC : Nat → ClassId) (dI : Nat → Nat → Nat) (cI cJ cZ cM : ClassId) (p0 : Nat) (p1 : Int32) (p2 : Nat → Nat)   : k_Mi l yX7_went wsX7_went ({ frames := 1, cells := 0, slots := 0, locals := 40 }) (dC, dI) vwCl (tyy cI cJ cZ cM) [(p0, .inr (7, oM p2 i7 j7))] [.ref p0, .int p1] 0 0 (fun (u9 : Unit) => [(p0, .inr (7, oM p2 i7 j7))]) (fun (r9 : Int32) (u9 : Unit) => r9 = (-1)) := by
  refine fun sz => k_enter (cc := cX7_went) (maxL := 2) (ret := some (.int)) (Qc := fun A => va_Qi (fun (r9 : Int32) (u9 : Unit) => r9 = (-1)) (fun u => k_B (dC, dI) vwCl (tyy cI cJ cZ cM) A ((fun (u9 : Unit) => [(p0, .inr (7, oM p2 i7 j7))]) u)) A) sz (by decide +kernel) rfl (Nat.le_of_ble_eq_true rfl) (fun p e s m args below meth c A ls H B hP hD hS hl => ?_)
  obtain ⟨hx, hb, hml, hown, hts, hr, hlk, hnm, hK, hA, hN⟩ := id B
  have hown : s.vm.findClass RX7 = some m.cls := hown
  have hl : lv_has ls 2 [(0, .ref p0), (1, .int p1)] := hl
  have w_0 : (Cond.fieldLink RX7 216 "WishSeaModel" "wentEnd" "I").before args s = true := hts _ (List.mem_of_getElem? (i := 1) rfl)
  have hinX7 : ∀ w ∈ u_ws RX7 TX7 92, w ∈ wsX7_went := fun _ h => List.mem_cons_of_mem _ (List.mem_append_right _ h)
  refine lv_aload_n hx hb dX7_went_0 rfl (lv_at hl 0 rfl) ?_
  refine k_get (D := (dC, dI)) (ci := 7) (v := .int (-1)) (C := RX7) (T := TX7) (N := 92) hx hb hts hinX7 hown hK hP 0 rfl rfl 67 (by decide) w_0 rfl rfl dX7_went_1 ?_
  refine lv_iconst (v := (-1)) hx hb dX7_went_4 (by decide +kernel) ?_
  refine lv_icmp_ne (tgt := 10) hx hb dX7_went_5 (by decide) (fun q9 => absurd q9 (by decide +kernel)) (fun _ => ?_)
  refine lv_iconst (v := (-1)) hx hb dX7_went_8 (by decide +kernel) ?_
  exact k_ri B hP hD hS dX7_went_9 () [0] rfl rfl rfl (Nat.le_of_ble_eq_true rfl) (Nat.le_of_ble_eq_true rfl) rfl
set_option maxHeartbeats 4000000 in
set_option maxRecDepth 100000 in
theorem c_X7_refuses_v4 (l : Launch) (dC : Nat → ClassId) (dI : Nat → Nat → Nat) (cI cJ cZ cM : ClassId) (p0 : Nat) (p1 : Nat → Nat)   : k_Mi l yX7_refuses wsX7_refuses ({ frames := 1, cells := 0, slots := 0, locals := 40 }) (dC, dI) vwCl (tyy cI cJ cZ cM) [(p0, .inr (7, oM p1 (upd i7 1 0) j7)), ((p1 48), .inl (cI, 6, .inl (fun _ => 0)))] [.ref p0, .int 5] 0 0 (fun (u9 : Unit) => [(p0, .inr (7, oM p1 (upd i7 1 0) j7)), ((p1 48), .inl (cI, 6, .inl (upd (fun _ => 0) 5 1)))]) (fun (r9 : Int32) (u9 : Unit) => r9 = (-1)) := by
  refine fun sz => k_enter (cc := cX7_refuses) (maxL := 2) (ret := some (.int)) (Qc := fun A => va_Qi (fun (r9 : Int32) (u9 : Unit) => r9 = (-1)) (fun u => k_B (dC, dI) vwCl (tyy cI cJ cZ cM) A ((fun (u9 : Unit) => [(p0, .inr (7, oM p1 (upd i7 1 0) j7)), ((p1 48), .inl (cI, 6, .inl (upd (fun _ => 0) 5 1)))]) u)) A) sz (by decide +kernel) rfl (Nat.le_of_ble_eq_true rfl) (fun p e s m args below meth c A ls H B hP hD hS hl => ?_)
  obtain ⟨hx, hb, hml, hown, hts, hr, hlk, hnm, hK, hA, hN⟩ := id B
  have hown : s.vm.findClass RX7 = some m.cls := hown
  have hl : lv_has ls 2 [(0, .ref p0), (1, .int 5)] := hl
  have w_0 : (Cond.fieldLink RX7 159 "WishSeaModel" "refused" "[I").before args s = true := hts _ (List.mem_of_getElem? (i := 1) rfl)
  have hinX7 : ∀ w ∈ u_ws RX7 TX7 92, w ∈ wsX7_refuses := fun _ h => List.mem_cons_of_mem _ (List.mem_append_right _ h)
  refine lv_aload_n hx hb dX7_refuses_0 rfl (lv_at hl 0 rfl) ?_
  refine k_get (D := (dC, dI)) (ci := 7) (v := .ref (p1 48)) (C := RX7) (T := TX7) (N := 92) hx hb hts hinX7 hown hK hP 0 rfl rfl 48 (by decide) w_0 rfl rfl dX7_refuses_1 ?_
  refine lv_iload_n hx hb dX7_refuses_4 rfl (lv_at hl 1 rfl) ?_
  refine lv_dup2_11 hx hb dX7_refuses_5 rfl rfl ?_
  refine k_iald (v := 0) hx hb hK hP 1 0 5 rfl rfl rfl (Nat.le_of_ble_eq_true rfl) (Nat.le_of_ble_eq_true rfl) rfl dX7_refuses_6 ?_
  refine lv_iconst (v := 1) hx hb dX7_refuses_7 (by decide +kernel) ?_
  refine lv_iadd hx hb dX7_refuses_8 ?_
  refine k_int (v := 1) (by decide +kernel) ?_
  refine k_iast (g := (upd (fun _ => 0) 5 1)) (ws' := [(p0, .inr (7, oM p1 (upd i7 1 0) j7)), ((p1 48), .inl (cI, 6, .inl (upd (fun _ => 0) 5 1)))]) hx hb hK hP hD hS 1 0 5 rfl rfl rfl (Nat.le_of_ble_eq_true rfl) (Nat.le_of_ble_eq_true rfl) rfl rfl dX7_refuses_9 (fun H locs hP hD hS => ?_)
  refine lv_iconst (v := (-1)) hx hb dX7_refuses_10 (by decide +kernel) ?_
  exact k_ri B hP hD hS dX7_refuses_11 () [0, 1] rfl rfl rfl (Nat.le_of_ble_eq_true rfl) (Nat.le_of_ble_eq_true rfl) rfl
set_option maxHeartbeats 4000000 in
set_option maxRecDepth 100000 in
theorem c_X7_falls_v0 (l : Launch) (dC : Nat → ClassId) (dI : Nat → Nat → Nat) (cI cJ cZ cM : ClassId) (p0 : Nat) (p1 : Nat → Nat)   : k_Mi l yX7_falls wsX7_falls ({ frames := 2, cells := 0, slots := 0, locals := 61 }) (dC, dI) vwCl (tyy cI cJ cZ cM) [(p0, .inr (7, oM p1 i7 j7)), ((p1 48), .inl (cI, 6, .inl (fun _ => 0)))] [.ref p0] 0 0 (fun (u9 : Unit) => [(p0, .inr (7, oM p1 (upd i7 1 0) j7)), ((p1 48), .inl (cI, 6, .inl (upd (fun _ => 0) 5 1)))]) (fun (r9 : Int32) (u9 : Unit) => r9 = (-1)) := by
  refine fun sz => k_enter (cc := cX7_falls) (maxL := 4) (ret := some (.int)) (Qc := fun A => va_Qi (fun (r9 : Int32) (u9 : Unit) => r9 = (-1)) (fun u => k_B (dC, dI) vwCl (tyy cI cJ cZ cM) A ((fun (u9 : Unit) => [(p0, .inr (7, oM p1 (upd i7 1 0) j7)), ((p1 48), .inl (cI, 6, .inl (upd (fun _ => 0) 5 1)))]) u)) A) sz (by decide +kernel) rfl (Nat.le_of_ble_eq_true rfl) (fun p e s m args below meth c A ls H B hP hD hS hl => ?_)
  obtain ⟨hx, hb, hml, hown, hts, hr, hlk, hnm, hK, hA, hN⟩ := id B
  have hown : s.vm.findClass RX7 = some m.cls := hown
  have hl : lv_has ls 4 [(0, .ref p0)] := hl
  have w_0 : (Cond.fieldLink RX7 13 "WishSeaModel" "taped" "I").before args s = true := hts _ (List.mem_of_getElem? (i := 1) rfl)
  have hinX7 : ∀ w ∈ u_ws RX7 TX7 92, w ∈ wsX7_falls := fun _ h => List.mem_cons_of_mem _ (List.mem_append_right _ h)
  refine lv_aload_n hx hb dX7_falls_0 rfl (lv_at hl 0 rfl) ?_
  refine k_get (D := (dC, dI)) (ci := 7) (v := .int 0) (C := RX7) (T := TX7) (N := 92) hx hb hts hinX7 hown hK hP 0 rfl rfl 1 (by decide) w_0 rfl rfl dX7_falls_1 ?_
  refine lv_istore_n (lv' := [(1, .int 0), (0, .ref p0)]) hx hb dX7_falls_4 rfl hl (by decide) rfl (fun ls hl => ?_)
  refine lv_aload_n hx hb dX7_falls_5 rfl (lv_at hl 1 rfl) ?_
  refine lv_iconst (v := 0) hx hb dX7_falls_6 (by decide +kernel) ?_
  refine k_put (D := (dC, dI)) (ci := 7) (v := .int 0) (C := RX7) (T := TX7) (N := 92) (ws' := [(p0, .inr (7, oM p1 (upd i7 1 0) j7)), ((p1 48), .inl (cI, 6, .inl (fun _ => 0)))]) hx hb hts hinX7 tyX7 tyX7_ok nmX7 hown hK hP hD hS 0 rfl rfl 1 (by decide) w_0 rfl rfl rfl rfl (Nat.le_of_ble_eq_true rfl) rfl dX7_falls_7 (fun H locs hP hD hS => ?_)
  refine lv_iload_n hx hb dX7_falls_10 rfl (lv_at hl 0 rfl) ?_
  refine lv_if_le (tgt := 30) hx hb dX7_falls_11 (by decide) (fun _ => ?_) (fun q9 => absurd q9 (by decide +kernel))
  refine lv_iconst (v := 0) hx hb dX7_falls_30 (by decide +kernel) ?_
  refine lv_istore_n (lv' := [(2, .int 0), (1, .int 0), (0, .ref p0)]) hx hb dX7_falls_31 rfl hl (by decide) rfl (fun ls hl => ?_)
  refine lv_iconst (v := 2) hx hb dX7_falls_32 (by decide +kernel) ?_
  refine lv_istore_n (lv' := [(3, .int 2), (2, .int 0), (1, .int 0), (0, .ref p0)]) hx hb dX7_falls_33 rfl hl (by decide) rfl (fun ls hl => ?_)
  refine lv_iload_n hx hb dX7_falls_34 rfl (lv_at hl 0 rfl) ?_
  refine lv_iload_n hx hb dX7_falls_35 rfl (lv_at hl 2 rfl) ?_
  refine lv_icmp_ge (tgt := 65) hx hb dX7_falls_36 (by decide) (fun _ => ?_) (fun q9 => absurd q9 (by decide +kernel))
  refine lv_iload_n hx hb dX7_falls_65 rfl (lv_at hl 1 rfl) ?_
  refine lv_if_ne (tgt := 75) hx hb dX7_falls_66 (by decide) (fun q9 => absurd q9 (by decide +kernel)) (fun _ => ?_)
  refine lv_aload_n hx hb dX7_falls_69 rfl (lv_at hl 3 rfl) ?_
  refine lv_iconst (v := 5) hx hb dX7_falls_70 (by decide +kernel) ?_
  refine k_ci (wc := [(p0, .inr (7, oM p1 (upd i7 1 0) j7)), ((p1 48), .inl (cI, 6, .inl (fun _ => 0)))]) (wr := []) (fun hPc hDc => va_runV (As := [.int 5]) (rest := []) ⟨hx, hb, hml, hown, hts⟩ (c_X7_refuses_v4 l dC dI cI cJ cZ cM p0 p1 H.size) (cwV 1 hts gX7_falls_X7_refuses rfl rfl rfl (by decide +kernel) ⟨(Nat.le_of_ble_eq_true rfl), (Nat.le_of_ble_eq_true rfl)⟩) (k_pV hPc hDc hK hN hP (q0 := 0) (ci := 7) rfl rfl) rfl rfl hl.1 rfl (lv_room (Nat.le_of_ble_eq_true rfl)) dX7_falls_71 ⟨(Nat.le_of_ble_eq_true rfl), (Nat.le_of_ble_eq_true rfl)⟩) hP hD hS hA [0, 1] [] rfl rfl rfl rfl (by decide) (fun _ => rfl) 0 0 rfl rfl (fun r_1 u_2 H locs hw hP hD hS => ?_)
  obtain rfl : r_1 = (-1) := hw
  have hP : va_P (dC, dI) vwCl [(p0, .inr (7, oM p1 (upd i7 1 0) j7)), ((p1 48), .inl (cI, 6, .inl (upd (fun _ => 0) 5 1)))] H := hP
  have hD : va_D A [(p0, .inr (7, oM p1 (upd i7 1 0) j7)), ((p1 48), .inl (cI, 6, .inl (upd (fun _ => 0) 5 1)))] := hD
  exact k_ri B hP hD hS dX7_falls_74 () [0, 1] rfl rfl rfl (Nat.le_of_ble_eq_true rfl) (Nat.le_of_ble_eq_true rfl) rfl
set_option maxHeartbeats 4000000 in
set_option maxRecDepth 100000 in
theorem c_X7_value_v0 (l : Launch) (dC : Nat → ClassId) (dI : Nat → Nat → Nat) (cI cJ cZ cM : ClassId) (p0 : Nat) (p1 : Int32) (p2 : Nat → Nat)   : k_Ml l yX7_value wsX7_value ({ frames := 2, cells := 0, slots := 0, locals := 62 }) (dC, dI) vwCl (tyy cI cJ cZ cM) [(p0, .inr (7, oM p2 i7 j7))] [.ref p0, .int p1] 0 0 (fun (u9 : Unit) => [(p0, .inr (7, oM p2 i7 j7))]) (fun (r9 : Int64) (u9 : Unit) => r9 = (-1)) := by
  refine fun sz => k_enter (cc := cX7_value) (maxL := 2) (ret := some (.long)) (Qc := fun A => va_Ql (fun (r9 : Int64) (u9 : Unit) => r9 = (-1)) (fun u => k_B (dC, dI) vwCl (tyy cI cJ cZ cM) A ((fun (u9 : Unit) => [(p0, .inr (7, oM p2 i7 j7))]) u)) A) sz (by decide +kernel) rfl (Nat.le_of_ble_eq_true rfl) (fun p e s m args below meth c A ls H B hP hD hS hl => ?_)
  obtain ⟨hx, hb, hml, hown, hts, hr, hlk, hnm, hK, hA, hN⟩ := id B
  have hown : s.vm.findClass RX7 = some m.cls := hown
  have hl : lv_has ls 2 [(0, .ref p0), (1, .int p1)] := hl
  have w_0 : (Cond.fieldLink RX7 255 "WishSeaModel" "stopMany" "I").before args s = true := hts _ (List.mem_of_getElem? (i := 1) rfl)
  have w_1 : (Cond.constantLong RX7 629 (-1)).before args s = true := hts _ (List.mem_of_getElem? (i := 3) rfl)
  have hinX7 : ∀ w ∈ u_ws RX7 TX7 92, w ∈ wsX7_value := fun _ h => List.mem_cons_of_mem _ (List.mem_append_right _ h)
  refine lv_iload_n hx hb dX7_value_0 rfl (lv_at hl 1 rfl) ?_
  refine lv_iconst (v := 0) hx hb dX7_value_1 (by decide +kernel) ?_
  refine lv_aload_n hx hb dX7_value_2 rfl (lv_at hl 0 rfl) ?_
  refine k_get (D := (dC, dI)) (ci := 7) (v := .int (-1)) (C := RX7) (T := TX7) (N := 92) hx hb hts hinX7 hown hK hP 0 rfl rfl 80 (by decide) w_0 rfl rfl dX7_value_3 ?_
  refine k_ci (wc := []) (wr := [(p0, .inr (7, oM p2 i7 j7))]) (fun hPc hDc => va_runS (As := [.int p1, .int 0, .int (-1)]) (rest := []) ⟨hx, hb, hml, hown, hts⟩ (c_X7_is_v2 l dC dI cI cJ cZ cM p1 H.size) (va_cwS 3 hts gX7_value_X7_is rfl rfl rfl (by decide +kernel) ⟨(Nat.le_of_ble_eq_true rfl), (Nat.le_of_ble_eq_true rfl)⟩) (k_pS hPc hDc hK hN) rfl rfl hl.1 rfl (lv_room (Nat.le_of_ble_eq_true rfl)) dX7_value_6 ⟨(Nat.le_of_ble_eq_true rfl), (Nat.le_of_ble_eq_true rfl)⟩) hP hD hS hA [] [0] rfl rfl rfl rfl (by decide) (fun _ => rfl) 0 0 rfl rfl (fun r_1 u_2 H locs hw hP hD hS => ?_)
  obtain rfl : r_1 = 0 := hw
  have hP : va_P (dC, dI) vwCl [(p0, .inr (7, oM p2 i7 j7))] H := hP
  have hD : va_D A [(p0, .inr (7, oM p2 i7 j7))] := hD
  refine lv_if_eq (tgt := 21) hx hb dX7_value_9 (by decide) (fun _ => ?_) (fun q9 => absurd q9 (by decide +kernel))
  refine lv_ldc2 (v := (-1)) hx hb hown w_1 dX7_value_21 ?_
  exact k_rl B hP hD hS dX7_value_24 () [0] rfl rfl (Nat.le_of_ble_eq_true rfl) (Nat.le_of_ble_eq_true rfl) rfl
set_option maxHeartbeats 4000000 in
set_option maxRecDepth 100000 in
theorem c_X7_is_v3 (l : Launch) (dC : Nat → ClassId) (dI : Nat → Nat → Nat) (cI cJ cZ cM : ClassId) (p0 : Int32)   : k_Mi l yX7_is wsX7_is ({ frames := 1, cells := 0, slots := 0, locals := 40 }) (dC, dI) vwCl (tyy cI cJ cZ cM) [] [.int p0, .int 0, .int 2] 0 0 (fun (u9 : (Nat × (Nat → Nat))) => []) (fun (r9 : Int32) (u9 : (Nat × (Nat → Nat))) => match u9.1 with | 0 => (p0.toInt < 0) ∧ r9 = 0 | 1 => (0 ≤ p0.toInt) ∧ (2 < p0.toInt) ∧ r9 = 0 | 2 => (0 ≤ p0.toInt) ∧ (p0.toInt ≤ 2) ∧ r9 = 1 | _ => False) := by
  refine fun sz => k_enter (cc := cX7_is) (maxL := 3) (ret := some (.boolean)) (Qc := fun A => va_Qi (fun (r9 : Int32) (u9 : (Nat × (Nat → Nat))) => match u9.1 with | 0 => (p0.toInt < 0) ∧ r9 = 0 | 1 => (0 ≤ p0.toInt) ∧ (2 < p0.toInt) ∧ r9 = 0 | 2 => (0 ≤ p0.toInt) ∧ (p0.toInt ≤ 2) ∧ r9 = 1 | _ => False) (fun u => k_B (dC, dI) vwCl (tyy cI cJ cZ cM) A ((fun (u9 : (Nat × (Nat → Nat))) => []) u)) A) sz (by decide +kernel) rfl (Nat.le_of_ble_eq_true rfl) (fun p e s m args below meth c A ls H B hP hD hS hl => ?_)
  obtain ⟨hx, hb, hml, hown, hts, hr, hlk, hnm, hK, hA, hN⟩ := id B
  have hown : s.vm.findClass RX7 = some m.cls := hown
  have hl : lv_has ls 3 [(0, .int p0), (1, .int 0), (2, .int 2)] := hl
  refine lv_iload_n hx hb dX7_is_0 rfl (lv_at hl 0 rfl) ?_
  refine lv_iload_n hx hb dX7_is_1 rfl (lv_at hl 1 rfl) ?_
  refine lv_icmp_lt (tgt := 14) hx hb dX7_is_2 (by decide) (fun c_1 => ?_) (fun c_1 => ?_)
  · have c_1 : p0.toInt < 0 := k_ltT rfl (by decide +kernel) c_1
    refine lv_iconst (v := 0) hx hb dX7_is_14 (by decide +kernel) ?_
    exact k_ri B hP hD hS dX7_is_15 (0, (fun _ => 0)) [] rfl rfl rfl (Nat.le_of_ble_eq_true rfl) (Nat.le_of_ble_eq_true rfl) ⟨c_1, rfl⟩
  · have c_1 : 0 ≤ p0.toInt := k_ltF rfl (by decide +kernel) c_1
    refine lv_iload_n hx hb dX7_is_5 rfl (lv_at hl 0 rfl) ?_
    refine lv_iload_n hx hb dX7_is_6 rfl (lv_at hl 2 rfl) ?_
    refine lv_icmp_gt (tgt := 14) hx hb dX7_is_7 (by decide) (fun c_2 => ?_) (fun c_2 => ?_)
    · have c_2 : 2 < p0.toInt := k_ltT (by decide +kernel) rfl c_2
      refine lv_iconst (v := 0) hx hb dX7_is_14 (by decide +kernel) ?_
      exact k_ri B hP hD hS dX7_is_15 (1, (fun _ => 0)) [] rfl rfl rfl (Nat.le_of_ble_eq_true rfl) (Nat.le_of_ble_eq_true rfl) ⟨c_1, c_2, rfl⟩
    · have c_2 : p0.toInt ≤ 2 := k_ltF (by decide +kernel) rfl c_2
      refine lv_iconst (v := 1) hx hb dX7_is_10 (by decide +kernel) ?_
      refine lv_goto (tgt := 15) hx hb dX7_is_11 (by decide) ?_
      exact k_ri B hP hD hS dX7_is_15 (2, (fun _ => 0)) [] rfl rfl rfl (Nat.le_of_ble_eq_true rfl) (Nat.le_of_ble_eq_true rfl) ⟨c_1, c_2, rfl⟩
set_option maxHeartbeats 4000000 in
set_option maxRecDepth 100000 in
theorem c_X7_briefOnes_v1 (l : Launch) (dC : Nat → ClassId) (dI : Nat → Nat → Nat) (cI cJ cZ cM : ClassId) (p0 : Nat) (p1 : Nat → Nat)   : k_Mi l yX7_briefOnes wsX7_briefOnes ({ frames := 1, cells := 0, slots := 0, locals := 40 }) (dC, dI) vwCl (tyy cI cJ cZ cM) [(p0, .inr (7, oM p1 i7 j7)), ((p1 14), .inl (cI, 2, .inl (fun _ => 0)))] [.ref p0] 0 0 (fun (u9 : Unit) => [(p0, .inr (7, oM p1 i7 j7)), ((p1 14), .inl (cI, 2, .inl (fun _ => 0)))]) (fun (r9 : Int32) (u9 : Unit) => r9 = 0) := by
  refine fun sz => k_enter (cc := cX7_briefOnes) (maxL := 3) (ret := some (.int)) (Qc := fun A => va_Qi (fun (r9 : Int32) (u9 : Unit) => r9 = 0) (fun u => k_B (dC, dI) vwCl (tyy cI cJ cZ cM) A ((fun (u9 : Unit) => [(p0, .inr (7, oM p1 i7 j7)), ((p1 14), .inl (cI, 2, .inl (fun _ => 0)))]) u)) A) sz (by decide +kernel) rfl (Nat.le_of_ble_eq_true rfl) (fun p e s m args below meth c A ls H B hP hD hS hl => ?_)
  obtain ⟨hx, hb, hml, hown, hts, hr, hlk, hnm, hK, hA, hN⟩ := id B
  have hown : s.vm.findClass RX7 = some m.cls := hown
  have hl : lv_has ls 3 [(0, .ref p0)] := hl
  have w_0 : (Cond.fieldLink RX7 54 "WishSeaModel" "things" "[I").before args s = true := hts _ (List.mem_of_getElem? (i := 1) rfl)
  have w_1 : (Cond.fieldLink RX7 51 "WishSeaModel" "bank" "I").before args s = true := hts _ (List.mem_of_getElem? (i := 2) rfl)
  have hinX7 : ∀ w ∈ u_ws RX7 TX7 92, w ∈ wsX7_briefOnes := fun _ h => List.mem_cons_of_mem _ (List.mem_append_right _ h)
  refine lv_iconst (v := 0) hx hb dX7_briefOnes_0 (by decide +kernel) ?_
  refine lv_istore_n (lv' := [(1, .int 0), (0, .ref p0)]) hx hb dX7_briefOnes_1 rfl hl (by decide) rfl (fun ls hl => ?_)
  refine lv_iconst (v := 0) hx hb dX7_briefOnes_2 (by decide +kernel) ?_
  refine lv_istore_n (lv' := [(2, .int 0), (1, .int 0), (0, .ref p0)]) hx hb dX7_briefOnes_3 rfl hl (by decide) rfl (fun ls hl => ?_)
  refine lv_iload_n hx hb dX7_briefOnes_4 rfl (lv_at hl 0 rfl) ?_
  refine lv_aload_n hx hb dX7_briefOnes_5 rfl (lv_at hl 2 rfl) ?_
  refine k_get (D := (dC, dI)) (ci := 7) (v := .ref (p1 14)) (C := RX7) (T := TX7) (N := 92) hx hb hts hinX7 hown hK hP 0 rfl rfl 14 (by decide) w_0 rfl rfl dX7_briefOnes_6 ?_
  refine lv_aload_n hx hb dX7_briefOnes_9 rfl (lv_at hl 2 rfl) ?_
  refine k_get (D := (dC, dI)) (ci := 7) (v := .int 0) (C := RX7) (T := TX7) (N := 92) hx hb hts hinX7 hown hK hP 0 rfl rfl 13 (by decide) w_1 rfl rfl dX7_briefOnes_10 ?_
  refine k_iald (v := 0) hx hb hK hP 1 0 0 rfl rfl rfl (Nat.le_of_ble_eq_true rfl) (Nat.le_of_ble_eq_true rfl) rfl dX7_briefOnes_13 ?_
  refine lv_icmp_ge (tgt := 42) hx hb dX7_briefOnes_14 (by decide) (fun _ => ?_) (fun q9 => absurd q9 (by decide +kernel))
  refine lv_iload_n hx hb dX7_briefOnes_42 rfl (lv_at hl 1 rfl) ?_
  exact k_ri B hP hD hS dX7_briefOnes_43 () [0, 1] rfl rfl rfl (Nat.le_of_ble_eq_true rfl) (Nat.le_of_ble_eq_true rfl) rfl
set_option maxHeartbeats 4000000 in
set_option maxRecDepth 100000 in
theorem c_X7_bits_v0 (l : Launch) (dC : Nat → ClassId) (dI : Nat → Nat → Nat) (cI cJ cZ cM : ClassId)    : k_Mi l yX7_bits wsX7_bits ({ frames := 1, cells := 0, slots := 0, locals := 40 }) (dC, dI) vwCl (tyy cI cJ cZ cM) [] [.int 0] 0 0 (fun (u9 : Unit) => []) (fun (r9 : Int32) (u9 : Unit) => r9 = 0) := by
  refine fun sz => k_enter (cc := cX7_bits) (maxL := 3) (ret := some (.int)) (Qc := fun A => va_Qi (fun (r9 : Int32) (u9 : Unit) => r9 = 0) (fun u => k_B (dC, dI) vwCl (tyy cI cJ cZ cM) A ((fun (u9 : Unit) => []) u)) A) sz (by decide +kernel) rfl (Nat.le_of_ble_eq_true rfl) (fun p e s m args below meth c A ls H B hP hD hS hl => ?_)
  obtain ⟨hx, hb, hml, hown, hts, hr, hlk, hnm, hK, hA, hN⟩ := id B
  have hown : s.vm.findClass RX7 = some m.cls := hown
  have hl : lv_has ls 3 [(0, .int 0)] := hl
  refine lv_iconst (v := 0) hx hb dX7_bits_0 (by decide +kernel) ?_
  refine lv_istore_n (lv' := [(1, .int 0), (0, .int 0)]) hx hb dX7_bits_1 rfl hl (by decide) rfl (fun ls hl => ?_)
  refine lv_iload_n hx hb dX7_bits_2 rfl (lv_at hl 1 rfl) ?_
  refine lv_istore_n (lv' := [(2, .int 0), (1, .int 0), (0, .int 0)]) hx hb dX7_bits_3 rfl hl (by decide) rfl (fun ls hl => ?_)
  refine lv_iload_n hx hb dX7_bits_4 rfl (lv_at hl 0 rfl) ?_
  refine lv_if_eq (tgt := 20) hx hb dX7_bits_5 (by decide) (fun _ => ?_) (fun q9 => absurd q9 (by decide +kernel))
  refine lv_iload_n hx hb dX7_bits_20 rfl (lv_at hl 1 rfl) ?_
  exact k_ri B hP hD hS dX7_bits_21 () [] rfl rfl rfl (Nat.le_of_ble_eq_true rfl) (Nat.le_of_ble_eq_true rfl) rfl
set_option maxHeartbeats 4000000 in
set_option maxRecDepth 100000 in
theorem c_X7_before_v0 (l : Launch) (dC : Nat → ClassId) (dI : Nat → Nat → Nat) (cI cJ cZ cM : ClassId) (p0 : Nat) (p1 : Int32) (p2 : Nat → Nat)   : k_Mi l yX7_before wsX7_before ({ frames := 2, cells := 0, slots := 0, locals := 62 }) (dC, dI) vwCl (tyy cI cJ cZ cM) [(p0, .inr (7, oM p2 i7 j7)), ((p2 14), .inl (cI, 2, .inl (fun _ => 0))), ((p2 49), .inl (cI, 22, .inl (fun _ => 0)))] [.ref p0, .int p1] 0 0 (fun (u9 : (Nat × (Nat → Nat))) => [(p0, .inr (7, oM p2 i7 j7)), ((p2 14), .inl (cI, 2, .inl (fun _ => 0))), ((p2 49), .inl (cI, 22, .inl (fun _ => 0)))]) (fun (r9 : Int32) (u9 : (Nat × (Nat → Nat))) => match u9.1 with | 0 => (p1.toInt < 0) ∧ r9 = (-1) | 1 => (0 ≤ p1.toInt) ∧ (2 < p1.toInt) ∧ r9 = (-1) | 2 => (0 ≤ p1.toInt) ∧ (p1.toInt ≤ 2) ∧ (¬ p1.toInt = 0) ∧ (¬ p1.toInt = 1) ∧ r9 = 0 | 3 => (0 ≤ p1.toInt) ∧ (p1.toInt ≤ 2) ∧ (¬ p1.toInt = 0) ∧ (p1.toInt = 1) ∧ r9 = 0 | 4 => (0 ≤ p1.toInt) ∧ (p1.toInt ≤ 2) ∧ (p1.toInt = 0) ∧ r9 = 1 | _ => False) := by
  refine fun sz => k_enter (cc := cX7_before) (maxL := 3) (ret := some (.int)) (Qc := fun A => va_Qi (fun (r9 : Int32) (u9 : (Nat × (Nat → Nat))) => match u9.1 with | 0 => (p1.toInt < 0) ∧ r9 = (-1) | 1 => (0 ≤ p1.toInt) ∧ (2 < p1.toInt) ∧ r9 = (-1) | 2 => (0 ≤ p1.toInt) ∧ (p1.toInt ≤ 2) ∧ (¬ p1.toInt = 0) ∧ (¬ p1.toInt = 1) ∧ r9 = 0 | 3 => (0 ≤ p1.toInt) ∧ (p1.toInt ≤ 2) ∧ (¬ p1.toInt = 0) ∧ (p1.toInt = 1) ∧ r9 = 0 | 4 => (0 ≤ p1.toInt) ∧ (p1.toInt ≤ 2) ∧ (p1.toInt = 0) ∧ r9 = 1 | _ => False) (fun u => k_B (dC, dI) vwCl (tyy cI cJ cZ cM) A ((fun (u9 : (Nat × (Nat → Nat))) => [(p0, .inr (7, oM p2 i7 j7)), ((p2 14), .inl (cI, 2, .inl (fun _ => 0))), ((p2 49), .inl (cI, 22, .inl (fun _ => 0)))]) u)) A) sz (by decide +kernel) rfl (Nat.le_of_ble_eq_true rfl) (fun p e s m args below meth c A ls H B hP hD hS hl => ?_)
  obtain ⟨hx, hb, hml, hown, hts, hr, hlk, hnm, hK, hA, hN⟩ := id B
  have hown : s.vm.findClass RX7 = some m.cls := hown
  have hl : lv_has ls 3 [(0, .ref p0), (1, .int p1)] := hl
  have w_0 : (Cond.fieldLink RX7 162 "WishSeaModel" "hadOf" "[I").before args s = true := hts _ (List.mem_of_getElem? (i := 1) rfl)
  have hinX7 : ∀ w ∈ u_ws RX7 TX7 92, w ∈ wsX7_before := fun _ h => List.mem_cons_of_mem _ (List.mem_append_right _ h)
  refine lv_iload_n hx hb dX7_before_0 rfl (lv_at hl 1 rfl) ?_
  refine lv_iconst (v := 0) hx hb dX7_before_1 (by decide +kernel) ?_
  refine lv_iconst (v := 2) hx hb dX7_before_2 (by decide +kernel) ?_
  refine k_ci (wc := []) (wr := [(p0, .inr (7, oM p2 i7 j7)), ((p2 14), .inl (cI, 2, .inl (fun _ => 0))), ((p2 49), .inl (cI, 22, .inl (fun _ => 0)))]) (fun hPc hDc => va_runS (As := [.int p1, .int 0, .int 2]) (rest := []) ⟨hx, hb, hml, hown, hts⟩ (c_X7_is_v3 l dC dI cI cJ cZ cM p1 H.size) (va_cwS 3 hts gX7_before_X7_is rfl rfl rfl (by decide +kernel) ⟨(Nat.le_of_ble_eq_true rfl), (Nat.le_of_ble_eq_true rfl)⟩) (k_pS hPc hDc hK hN) rfl rfl hl.1 rfl (lv_room (Nat.le_of_ble_eq_true rfl)) dX7_before_3 ⟨(Nat.le_of_ble_eq_true rfl), (Nat.le_of_ble_eq_true rfl)⟩) hP hD hS hA [] [0, 1, 2] rfl rfl rfl rfl (by decide) (fun _ => rfl) 0 0 rfl rfl (fun r_1 u_2 H locs hw hP hD hS => ?_)
  obtain ⟨k_u_2, u_u_2⟩ := u_2
  rcases k_u_2 with _ | _ | _ | k_u_2
  · obtain ⟨c_3, rfl⟩ : (p1.toInt < 0) ∧ r_1 = 0 := hw
    have hP : va_P (dC, dI) vwCl [(p0, .inr (7, oM p2 i7 j7)), ((p2 14), .inl (cI, 2, .inl (fun _ => 0))), ((p2 49), .inl (cI, 22, .inl (fun _ => 0)))] H := hP
    have hD : va_D A [(p0, .inr (7, oM p2 i7 j7)), ((p2 14), .inl (cI, 2, .inl (fun _ => 0))), ((p2 49), .inl (cI, 22, .inl (fun _ => 0)))] := hD
    refine lv_if_ne (tgt := 11) hx hb dX7_before_6 (by decide) (fun q9 => absurd q9 (by decide +kernel)) (fun _ => ?_)
    refine lv_iconst (v := (-1)) hx hb dX7_before_9 (by decide +kernel) ?_
    exact k_ri B hP hD hS dX7_before_10 (0, (fun _ => 0)) [0, 1, 2] rfl rfl rfl (Nat.le_of_ble_eq_true rfl) (Nat.le_of_ble_eq_true rfl) ⟨c_3, rfl⟩
  · obtain ⟨c_4, c_5, rfl⟩ : (0 ≤ p1.toInt) ∧ (2 < p1.toInt) ∧ r_1 = 0 := hw
    have hP : va_P (dC, dI) vwCl [(p0, .inr (7, oM p2 i7 j7)), ((p2 14), .inl (cI, 2, .inl (fun _ => 0))), ((p2 49), .inl (cI, 22, .inl (fun _ => 0)))] H := hP
    have hD : va_D A [(p0, .inr (7, oM p2 i7 j7)), ((p2 14), .inl (cI, 2, .inl (fun _ => 0))), ((p2 49), .inl (cI, 22, .inl (fun _ => 0)))] := hD
    refine lv_if_ne (tgt := 11) hx hb dX7_before_6 (by decide) (fun q9 => absurd q9 (by decide +kernel)) (fun _ => ?_)
    refine lv_iconst (v := (-1)) hx hb dX7_before_9 (by decide +kernel) ?_
    exact k_ri B hP hD hS dX7_before_10 (1, (fun _ => 0)) [0, 1, 2] rfl rfl rfl (Nat.le_of_ble_eq_true rfl) (Nat.le_of_ble_eq_true rfl) ⟨c_4, c_5, rfl⟩
  · obtain ⟨c_6, c_7, rfl⟩ : (0 ≤ p1.toInt) ∧ (p1.toInt ≤ 2) ∧ r_1 = 1 := hw
    have hP : va_P (dC, dI) vwCl [(p0, .inr (7, oM p2 i7 j7)), ((p2 14), .inl (cI, 2, .inl (fun _ => 0))), ((p2 49), .inl (cI, 22, .inl (fun _ => 0)))] H := hP
    have hD : va_D A [(p0, .inr (7, oM p2 i7 j7)), ((p2 14), .inl (cI, 2, .inl (fun _ => 0))), ((p2 49), .inl (cI, 22, .inl (fun _ => 0)))] := hD
    refine lv_if_ne (tgt := 11) hx hb dX7_before_6 (by decide) (fun _ => ?_) (fun q9 => absurd q9 (by decide +kernel))
    refine lv_aload_n hx hb dX7_before_11 rfl (lv_at hl 0 rfl) ?_
    refine k_ci (wc := [(p0, .inr (7, oM p2 i7 j7)), ((p2 14), .inl (cI, 2, .inl (fun _ => 0)))]) (wr := [((p2 49), .inl (cI, 22, .inl (fun _ => 0)))]) (fun hPc hDc => va_runV (As := []) (rest := []) ⟨hx, hb, hml, hown, hts⟩ (c_X7_briefOnes_v1 l dC dI cI cJ cZ cM p0 p2 H.size) (cwV 0 hts gX7_before_X7_briefOnes rfl rfl rfl (by decide +kernel) ⟨(Nat.le_of_ble_eq_true rfl), (Nat.le_of_ble_eq_true rfl)⟩) (k_pV hPc hDc hK hN hP (q0 := 0) (ci := 7) rfl rfl) rfl rfl hl.1 rfl (lv_room (Nat.le_of_ble_eq_true rfl)) dX7_before_12 ⟨(Nat.le_of_ble_eq_true rfl), (Nat.le_of_ble_eq_true rfl)⟩) hP hD hS hA [0, 1] [2] rfl rfl rfl rfl (by decide) (fun _ => rfl) 0 0 rfl rfl (fun r_8 u_9 H locs hw hP hD hS => ?_)
    obtain rfl : r_8 = 0 := hw
    have hP : va_P (dC, dI) vwCl [((p2 49), .inl (cI, 22, .inl (fun _ => 0))), (p0, .inr (7, oM p2 i7 j7)), ((p2 14), .inl (cI, 2, .inl (fun _ => 0)))] H := hP
    have hD : va_D A [((p2 49), .inl (cI, 22, .inl (fun _ => 0))), (p0, .inr (7, oM p2 i7 j7)), ((p2 14), .inl (cI, 2, .inl (fun _ => 0)))] := hD
    refine lv_istore_n (lv' := [(2, .int 0), (0, .ref p0), (1, .int p1)]) hx hb dX7_before_15 rfl hl (by decide) rfl (fun ls hl => ?_)
    refine lv_aload_n hx hb dX7_before_16 rfl (lv_at hl 1 rfl) ?_
    refine k_get (D := (dC, dI)) (ci := 7) (v := .ref (p2 49)) (C := RX7) (T := TX7) (N := 92) hx hb hts hinX7 hown hK hP 1 rfl rfl 49 (by decide) w_0 rfl rfl dX7_before_17 ?_
    refine lv_iconst (v := 0) hx hb dX7_before_20 (by decide +kernel) ?_
    refine k_iald (v := 0) hx hb hK hP 0 0 0 rfl rfl rfl (Nat.le_of_ble_eq_true rfl) (Nat.le_of_ble_eq_true rfl) rfl dX7_before_21 ?_
    refine lv_iload_n hx hb dX7_before_22 rfl (lv_at hl 0 rfl) ?_
    refine lv_iand hx hb dX7_before_23 ?_
    refine k_int (v := 0) (by decide +kernel) ?_
    refine lv_if_eq (tgt := 37) hx hb dX7_before_24 (by decide) (fun _ => ?_) (fun q9 => absurd q9 (by decide +kernel))
    refine lv_iload_n hx hb dX7_before_37 rfl (lv_at hl 2 rfl) ?_
    refine lv_if_ne (tgt := 50) hx hb dX7_before_38 (by decide) (fun c_10 => ?_) (fun c_10 => ?_)
    · have c_10 : ¬ p1.toInt = 0 := k_eqF rfl (by decide +kernel) c_10
      refine lv_iload_n hx hb dX7_before_50 rfl (lv_at hl 2 rfl) ?_
      refine lv_iconst (v := 1) hx hb dX7_before_51 (by decide +kernel) ?_
      refine lv_icmp_ne (tgt := 64) hx hb dX7_before_52 (by decide) (fun c_11 => ?_) (fun c_11 => ?_)
      · have c_11 : ¬ p1.toInt = 1 := k_eqF rfl (by decide +kernel) c_11
        refine lv_aload_n hx hb dX7_before_64 rfl (lv_at hl 1 rfl) ?_
        refine k_get (D := (dC, dI)) (ci := 7) (v := .ref (p2 49)) (C := RX7) (T := TX7) (N := 92) hx hb hts hinX7 hown hK hP 1 rfl rfl 49 (by decide) w_0 rfl rfl dX7_before_65 ?_
        refine lv_iconst (v := 0) hx hb dX7_before_68 (by decide +kernel) ?_
        refine k_iald (v := 0) hx hb hK hP 0 0 0 rfl rfl rfl (Nat.le_of_ble_eq_true rfl) (Nat.le_of_ble_eq_true rfl) rfl dX7_before_69 ?_
        refine lv_iload_n hx hb dX7_before_70 rfl (lv_at hl 0 rfl) ?_
        refine lv_ior hx hb dX7_before_71 ?_
        refine k_int (v := 0) (by decide +kernel) ?_
        exact k_ri B hP hD hS dX7_before_72 (2, (fun _ => 0)) [1, 2, 0] rfl rfl rfl (Nat.le_of_ble_eq_true rfl) (Nat.le_of_ble_eq_true rfl) ⟨c_6, c_7, c_10, c_11, rfl⟩
      · have c_11 : p1.toInt = 1 := k_eqT rfl (by decide +kernel) c_11
        refine lv_aload_n hx hb dX7_before_55 rfl (lv_at hl 1 rfl) ?_
        refine k_get (D := (dC, dI)) (ci := 7) (v := .ref (p2 49)) (C := RX7) (T := TX7) (N := 92) hx hb hts hinX7 hown hK hP 1 rfl rfl 49 (by decide) w_0 rfl rfl dX7_before_56 ?_
        refine lv_iconst (v := 0) hx hb dX7_before_59 (by decide +kernel) ?_
        refine k_iald (v := 0) hx hb hK hP 0 0 0 rfl rfl rfl (Nat.le_of_ble_eq_true rfl) (Nat.le_of_ble_eq_true rfl) rfl dX7_before_60 ?_
        refine lv_goto (tgt := 72) hx hb dX7_before_61 (by decide) ?_
        exact k_ri B hP hD hS dX7_before_72 (3, (fun _ => 0)) [1, 2, 0] rfl rfl rfl (Nat.le_of_ble_eq_true rfl) (Nat.le_of_ble_eq_true rfl) ⟨c_6, c_7, c_10, c_11, rfl⟩
    · have c_10 : p1.toInt = 0 := k_eqT rfl (by decide +kernel) c_10
      refine lv_iconst (v := 1) hx hb dX7_before_41 (by decide +kernel) ?_
      refine lv_iload_n hx hb dX7_before_42 rfl (lv_at hl 0 rfl) ?_
      refine k_ci (wc := []) (wr := [((p2 49), .inl (cI, 22, .inl (fun _ => 0))), (p0, .inr (7, oM p2 i7 j7)), ((p2 14), .inl (cI, 2, .inl (fun _ => 0)))]) (fun hPc hDc => va_runS (As := [.int 0]) (rest := [.int 1]) ⟨hx, hb, hml, hown, hts⟩ (c_X7_bits_v0 l dC dI cI cJ cZ cM H.size) (va_cwS 1 hts gX7_before_X7_bits rfl rfl rfl (by decide +kernel) ⟨(Nat.le_of_ble_eq_true rfl), (Nat.le_of_ble_eq_true rfl)⟩) (k_pS hPc hDc hK hN) rfl rfl hl.1 rfl (lv_room (Nat.le_of_ble_eq_true rfl)) dX7_before_43 ⟨(Nat.le_of_ble_eq_true rfl), (Nat.le_of_ble_eq_true rfl)⟩) hP hD hS hA [] [0, 1, 2] rfl rfl rfl rfl (by decide) (fun _ => rfl) 0 0 rfl rfl (fun r_12 u_13 H locs hw hP hD hS => ?_)
      obtain rfl : r_12 = 0 := hw
      have hP : va_P (dC, dI) vwCl [((p2 49), .inl (cI, 22, .inl (fun _ => 0))), (p0, .inr (7, oM p2 i7 j7)), ((p2 14), .inl (cI, 2, .inl (fun _ => 0)))] H := hP
      have hD : va_D A [((p2 49), .inl (cI, 22, .inl (fun _ => 0))), (p0, .inr (7, oM p2 i7 j7)), ((p2 14), .inl (cI, 2, .inl (fun _ => 0)))] := hD
      refine lv_ishl hx hb dX7_before_46 ?_
      refine k_int (v := 1) (by decide +kernel) ?_
      refine lv_goto (tgt := 72) hx hb dX7_before_47 (by decide) ?_
      exact k_ri B hP hD hS dX7_before_72 (4, (fun _ => 0)) [1, 2, 0] rfl rfl rfl (Nat.le_of_ble_eq_true rfl) (Nat.le_of_ble_eq_true rfl) ⟨c_6, c_7, c_10, rfl⟩
  · exact False.elim hw
set_option maxHeartbeats 4000000 in
set_option maxRecDepth 100000 in
theorem c_X7_writes_v0 (l : Launch) (dC : Nat → ClassId) (dI : Nat → Nat → Nat) (cI cJ cZ cM : ClassId) (p0 : Nat) (p1 : Nat → Nat)   : k_Mv l yX7_writes wsX7_writes ({ frames := 1, cells := 0, slots := 0, locals := 40 }) (dC, dI) vwCl (tyy cI cJ cZ cM) [(p0, .inr (7, oM p1 (upd i7 91 0) j7)), ((p1 90), .inl (cI, 12, .inl (fun _ => 0)))] [.ref p0, .int 0] 0 0 (fun (u9 : Unit) => [(p0, .inr (7, oM p1 (upd i7 91 1) j7)), ((p1 90), .inl (cI, 12, .inl (upd (fun _ => 0) 0 0)))]) (fun (u9 : Unit) => True) := by
  refine fun sz => k_enter (cc := cX7_writes) (maxL := 2) (ret := none) (Qc := fun A => va_Qv (fun (u9 : Unit) => True) (fun u => k_B (dC, dI) vwCl (tyy cI cJ cZ cM) A ((fun (u9 : Unit) => [(p0, .inr (7, oM p1 (upd i7 91 1) j7)), ((p1 90), .inl (cI, 12, .inl (upd (fun _ => 0) 0 0)))]) u)) A) sz (by decide +kernel) rfl (Nat.le_of_ble_eq_true rfl) (fun p e s m args below meth c A ls H B hP hD hS hl => ?_)
  obtain ⟨hx, hb, hml, hown, hts, hr, hlk, hnm, hK, hA, hN⟩ := id B
  have hown : s.vm.findClass RX7 = some m.cls := hown
  have hl : lv_has ls 2 [(0, .ref p0), (1, .int 0)] := hl
  have w_0 : (Cond.fieldLink RX7 285 "WishSeaModel" "out" "[I").before args s = true := hts _ (List.mem_of_getElem? (i := 1) rfl)
  have w_1 : (Cond.fieldLink RX7 288 "WishSeaModel" "outs" "I").before args s = true := hts _ (List.mem_of_getElem? (i := 2) rfl)
  have hinX7 : ∀ w ∈ u_ws RX7 TX7 92, w ∈ wsX7_writes := fun _ h => List.mem_cons_of_mem _ (List.mem_append_right _ h)
  refine lv_aload_n hx hb dX7_writes_0 rfl (lv_at hl 0 rfl) ?_
  refine k_get (D := (dC, dI)) (ci := 7) (v := .ref (p1 90)) (C := RX7) (T := TX7) (N := 92) hx hb hts hinX7 hown hK hP 0 rfl rfl 90 (by decide) w_0 rfl rfl dX7_writes_1 ?_
  refine lv_aload_n hx hb dX7_writes_4 rfl (lv_at hl 0 rfl) ?_
  refine k_get (D := (dC, dI)) (ci := 7) (v := .int 0) (C := RX7) (T := TX7) (N := 92) hx hb hts hinX7 hown hK hP 0 rfl rfl 91 (by decide) w_1 rfl rfl dX7_writes_5 ?_
  refine lv_iload_n hx hb dX7_writes_8 rfl (lv_at hl 1 rfl) ?_
  refine lv_sipush (v := 255) hx hb dX7_writes_9 (by decide +kernel) ?_
  refine lv_iand hx hb dX7_writes_12 ?_
  refine k_int (v := 0) (by decide +kernel) ?_
  refine k_iast (g := (upd (fun _ => 0) 0 0)) (ws' := [(p0, .inr (7, oM p1 (upd i7 91 0) j7)), ((p1 90), .inl (cI, 12, .inl (upd (fun _ => 0) 0 0)))]) hx hb hK hP hD hS 1 0 0 rfl rfl rfl (Nat.le_of_ble_eq_true rfl) (Nat.le_of_ble_eq_true rfl) rfl rfl dX7_writes_13 (fun H locs hP hD hS => ?_)
  refine lv_aload_n hx hb dX7_writes_14 rfl (lv_at hl 0 rfl) ?_
  refine lv_dup hx hb dX7_writes_15 rfl ?_
  refine k_get (D := (dC, dI)) (ci := 7) (v := .int 0) (C := RX7) (T := TX7) (N := 92) hx hb hts hinX7 hown hK hP 0 rfl rfl 91 (by decide) w_1 rfl rfl dX7_writes_16 ?_
  refine lv_iconst (v := 1) hx hb dX7_writes_19 (by decide +kernel) ?_
  refine lv_iadd hx hb dX7_writes_20 ?_
  refine k_int (v := 1) (by decide +kernel) ?_
  refine k_put (D := (dC, dI)) (ci := 7) (v := .int 1) (C := RX7) (T := TX7) (N := 92) (ws' := [(p0, .inr (7, oM p1 (upd i7 91 1) j7)), ((p1 90), .inl (cI, 12, .inl (upd (fun _ => 0) 0 0)))]) hx hb hts hinX7 tyX7 tyX7_ok nmX7 hown hK hP hD hS 0 rfl rfl 91 (by decide) w_1 rfl rfl rfl rfl (Nat.le_of_ble_eq_true rfl) rfl dX7_writes_21 (fun H locs hP hD hS => ?_)
  exact k_rv B hP hD hS dX7_writes_24 () [0, 1] rfl rfl (Nat.le_of_ble_eq_true rfl) (Nat.le_of_ble_eq_true rfl) trivial
set_option maxHeartbeats 4000000 in
set_option maxRecDepth 100000 in
theorem c_X7_writes_v1 (l : Launch) (dC : Nat → ClassId) (dI : Nat → Nat → Nat) (cI cJ cZ cM : ClassId) (p0 : Nat) (p1 : Nat → Nat)   : k_Mv l yX7_writes wsX7_writes ({ frames := 1, cells := 0, slots := 0, locals := 40 }) (dC, dI) vwCl (tyy cI cJ cZ cM) [(p0, .inr (7, oM p1 (upd i7 91 1) j7)), ((p1 90), .inl (cI, 12, .inl (upd (fun _ => 0) 0 0)))] [.ref p0, .int 0] 0 0 (fun (u9 : Unit) => [(p0, .inr (7, oM p1 (upd i7 91 2) j7)), ((p1 90), .inl (cI, 12, .inl (upd (upd (fun _ => 0) 0 0) 1 0)))]) (fun (u9 : Unit) => True) := by
  refine fun sz => k_enter (cc := cX7_writes) (maxL := 2) (ret := none) (Qc := fun A => va_Qv (fun (u9 : Unit) => True) (fun u => k_B (dC, dI) vwCl (tyy cI cJ cZ cM) A ((fun (u9 : Unit) => [(p0, .inr (7, oM p1 (upd i7 91 2) j7)), ((p1 90), .inl (cI, 12, .inl (upd (upd (fun _ => 0) 0 0) 1 0)))]) u)) A) sz (by decide +kernel) rfl (Nat.le_of_ble_eq_true rfl) (fun p e s m args below meth c A ls H B hP hD hS hl => ?_)
  obtain ⟨hx, hb, hml, hown, hts, hr, hlk, hnm, hK, hA, hN⟩ := id B
  have hown : s.vm.findClass RX7 = some m.cls := hown
  have hl : lv_has ls 2 [(0, .ref p0), (1, .int 0)] := hl
  have w_0 : (Cond.fieldLink RX7 285 "WishSeaModel" "out" "[I").before args s = true := hts _ (List.mem_of_getElem? (i := 1) rfl)
  have w_1 : (Cond.fieldLink RX7 288 "WishSeaModel" "outs" "I").before args s = true := hts _ (List.mem_of_getElem? (i := 2) rfl)
  have hinX7 : ∀ w ∈ u_ws RX7 TX7 92, w ∈ wsX7_writes := fun _ h => List.mem_cons_of_mem _ (List.mem_append_right _ h)
  refine lv_aload_n hx hb dX7_writes_0 rfl (lv_at hl 0 rfl) ?_
  refine k_get (D := (dC, dI)) (ci := 7) (v := .ref (p1 90)) (C := RX7) (T := TX7) (N := 92) hx hb hts hinX7 hown hK hP 0 rfl rfl 90 (by decide) w_0 rfl rfl dX7_writes_1 ?_
  refine lv_aload_n hx hb dX7_writes_4 rfl (lv_at hl 0 rfl) ?_
  refine k_get (D := (dC, dI)) (ci := 7) (v := .int 1) (C := RX7) (T := TX7) (N := 92) hx hb hts hinX7 hown hK hP 0 rfl rfl 91 (by decide) w_1 rfl rfl dX7_writes_5 ?_
  refine lv_iload_n hx hb dX7_writes_8 rfl (lv_at hl 1 rfl) ?_
  refine lv_sipush (v := 255) hx hb dX7_writes_9 (by decide +kernel) ?_
  refine lv_iand hx hb dX7_writes_12 ?_
  refine k_int (v := 0) (by decide +kernel) ?_
  refine k_iast (g := (upd (upd (fun _ => 0) 0 0) 1 0)) (ws' := [(p0, .inr (7, oM p1 (upd i7 91 1) j7)), ((p1 90), .inl (cI, 12, .inl (upd (upd (fun _ => 0) 0 0) 1 0)))]) hx hb hK hP hD hS 1 0 1 rfl rfl rfl (Nat.le_of_ble_eq_true rfl) (Nat.le_of_ble_eq_true rfl) rfl rfl dX7_writes_13 (fun H locs hP hD hS => ?_)
  refine lv_aload_n hx hb dX7_writes_14 rfl (lv_at hl 0 rfl) ?_
  refine lv_dup hx hb dX7_writes_15 rfl ?_
  refine k_get (D := (dC, dI)) (ci := 7) (v := .int 1) (C := RX7) (T := TX7) (N := 92) hx hb hts hinX7 hown hK hP 0 rfl rfl 91 (by decide) w_1 rfl rfl dX7_writes_16 ?_
  refine lv_iconst (v := 1) hx hb dX7_writes_19 (by decide +kernel) ?_
  refine lv_iadd hx hb dX7_writes_20 ?_
  refine k_int (v := 2) (by decide +kernel) ?_
  refine k_put (D := (dC, dI)) (ci := 7) (v := .int 2) (C := RX7) (T := TX7) (N := 92) (ws' := [(p0, .inr (7, oM p1 (upd i7 91 2) j7)), ((p1 90), .inl (cI, 12, .inl (upd (upd (fun _ => 0) 0 0) 1 0)))]) hx hb hts hinX7 tyX7 tyX7_ok nmX7 hown hK hP hD hS 0 rfl rfl 91 (by decide) w_1 rfl rfl rfl rfl (Nat.le_of_ble_eq_true rfl) rfl dX7_writes_21 (fun H locs hP hD hS => ?_)
  exact k_rv B hP hD hS dX7_writes_24 () [0, 1] rfl rfl (Nat.le_of_ble_eq_true rfl) (Nat.le_of_ble_eq_true rfl) trivial
set_option maxHeartbeats 4000000 in
set_option maxRecDepth 100000 in
theorem c_X7_writes_v2 (l : Launch) (dC : Nat → ClassId) (dI : Nat → Nat → Nat) (cI cJ cZ cM : ClassId) (p0 : Nat) (p1 : Nat → Nat)   : k_Mv l yX7_writes wsX7_writes ({ frames := 1, cells := 0, slots := 0, locals := 40 }) (dC, dI) vwCl (tyy cI cJ cZ cM) [(p0, .inr (7, oM p1 (upd i7 91 2) j7)), ((p1 90), .inl (cI, 12, .inl (upd (upd (fun _ => 0) 0 0) 1 0)))] [.ref p0, .int 0] 0 0 (fun (u9 : Unit) => [(p0, .inr (7, oM p1 (upd i7 91 3) j7)), ((p1 90), .inl (cI, 12, .inl (upd (upd (upd (fun _ => 0) 0 0) 1 0) 2 0)))]) (fun (u9 : Unit) => True) := by
  refine fun sz => k_enter (cc := cX7_writes) (maxL := 2) (ret := none) (Qc := fun A => va_Qv (fun (u9 : Unit) => True) (fun u => k_B (dC, dI) vwCl (tyy cI cJ cZ cM) A ((fun (u9 : Unit) => [(p0, .inr (7, oM p1 (upd i7 91 3) j7)), ((p1 90), .inl (cI, 12, .inl (upd (upd (upd (fun _ => 0) 0 0) 1 0) 2 0)))]) u)) A) sz (by decide +kernel) rfl (Nat.le_of_ble_eq_true rfl) (fun p e s m args below meth c A ls H B hP hD hS hl => ?_)
  obtain ⟨hx, hb, hml, hown, hts, hr, hlk, hnm, hK, hA, hN⟩ := id B
  have hown : s.vm.findClass RX7 = some m.cls := hown
  have hl : lv_has ls 2 [(0, .ref p0), (1, .int 0)] := hl
  have w_0 : (Cond.fieldLink RX7 285 "WishSeaModel" "out" "[I").before args s = true := hts _ (List.mem_of_getElem? (i := 1) rfl)
  have w_1 : (Cond.fieldLink RX7 288 "WishSeaModel" "outs" "I").before args s = true := hts _ (List.mem_of_getElem? (i := 2) rfl)
  have hinX7 : ∀ w ∈ u_ws RX7 TX7 92, w ∈ wsX7_writes := fun _ h => List.mem_cons_of_mem _ (List.mem_append_right _ h)
  refine lv_aload_n hx hb dX7_writes_0 rfl (lv_at hl 0 rfl) ?_
  refine k_get (D := (dC, dI)) (ci := 7) (v := .ref (p1 90)) (C := RX7) (T := TX7) (N := 92) hx hb hts hinX7 hown hK hP 0 rfl rfl 90 (by decide) w_0 rfl rfl dX7_writes_1 ?_
  refine lv_aload_n hx hb dX7_writes_4 rfl (lv_at hl 0 rfl) ?_
  refine k_get (D := (dC, dI)) (ci := 7) (v := .int 2) (C := RX7) (T := TX7) (N := 92) hx hb hts hinX7 hown hK hP 0 rfl rfl 91 (by decide) w_1 rfl rfl dX7_writes_5 ?_
  refine lv_iload_n hx hb dX7_writes_8 rfl (lv_at hl 1 rfl) ?_
  refine lv_sipush (v := 255) hx hb dX7_writes_9 (by decide +kernel) ?_
  refine lv_iand hx hb dX7_writes_12 ?_
  refine k_int (v := 0) (by decide +kernel) ?_
  refine k_iast (g := (upd (upd (upd (fun _ => 0) 0 0) 1 0) 2 0)) (ws' := [(p0, .inr (7, oM p1 (upd i7 91 2) j7)), ((p1 90), .inl (cI, 12, .inl (upd (upd (upd (fun _ => 0) 0 0) 1 0) 2 0)))]) hx hb hK hP hD hS 1 0 2 rfl rfl rfl (Nat.le_of_ble_eq_true rfl) (Nat.le_of_ble_eq_true rfl) rfl rfl dX7_writes_13 (fun H locs hP hD hS => ?_)
  refine lv_aload_n hx hb dX7_writes_14 rfl (lv_at hl 0 rfl) ?_
  refine lv_dup hx hb dX7_writes_15 rfl ?_
  refine k_get (D := (dC, dI)) (ci := 7) (v := .int 2) (C := RX7) (T := TX7) (N := 92) hx hb hts hinX7 hown hK hP 0 rfl rfl 91 (by decide) w_1 rfl rfl dX7_writes_16 ?_
  refine lv_iconst (v := 1) hx hb dX7_writes_19 (by decide +kernel) ?_
  refine lv_iadd hx hb dX7_writes_20 ?_
  refine k_int (v := 3) (by decide +kernel) ?_
  refine k_put (D := (dC, dI)) (ci := 7) (v := .int 3) (C := RX7) (T := TX7) (N := 92) (ws' := [(p0, .inr (7, oM p1 (upd i7 91 3) j7)), ((p1 90), .inl (cI, 12, .inl (upd (upd (upd (fun _ => 0) 0 0) 1 0) 2 0)))]) hx hb hts hinX7 tyX7 tyX7_ok nmX7 hown hK hP hD hS 0 rfl rfl 91 (by decide) w_1 rfl rfl rfl rfl (Nat.le_of_ble_eq_true rfl) rfl dX7_writes_21 (fun H locs hP hD hS => ?_)
  exact k_rv B hP hD hS dX7_writes_24 () [0, 1] rfl rfl (Nat.le_of_ble_eq_true rfl) (Nat.le_of_ble_eq_true rfl) trivial
set_option maxHeartbeats 4000000 in
set_option maxRecDepth 100000 in
theorem c_X7_writes_v3 (l : Launch) (dC : Nat → ClassId) (dI : Nat → Nat → Nat) (cI cJ cZ cM : ClassId) (p0 : Nat) (p1 : Nat → Nat)   : k_Mv l yX7_writes wsX7_writes ({ frames := 1, cells := 0, slots := 0, locals := 40 }) (dC, dI) vwCl (tyy cI cJ cZ cM) [(p0, .inr (7, oM p1 (upd i7 91 3) j7)), ((p1 90), .inl (cI, 12, .inl (upd (upd (upd (fun _ => 0) 0 0) 1 0) 2 0)))] [.ref p0, .int 0] 0 0 (fun (u9 : Unit) => [(p0, .inr (7, oM p1 (upd i7 91 4) j7)), ((p1 90), .inl (cI, 12, .inl (upd (upd (upd (upd (fun _ => 0) 0 0) 1 0) 2 0) 3 0)))]) (fun (u9 : Unit) => True) := by
  refine fun sz => k_enter (cc := cX7_writes) (maxL := 2) (ret := none) (Qc := fun A => va_Qv (fun (u9 : Unit) => True) (fun u => k_B (dC, dI) vwCl (tyy cI cJ cZ cM) A ((fun (u9 : Unit) => [(p0, .inr (7, oM p1 (upd i7 91 4) j7)), ((p1 90), .inl (cI, 12, .inl (upd (upd (upd (upd (fun _ => 0) 0 0) 1 0) 2 0) 3 0)))]) u)) A) sz (by decide +kernel) rfl (Nat.le_of_ble_eq_true rfl) (fun p e s m args below meth c A ls H B hP hD hS hl => ?_)
  obtain ⟨hx, hb, hml, hown, hts, hr, hlk, hnm, hK, hA, hN⟩ := id B
  have hown : s.vm.findClass RX7 = some m.cls := hown
  have hl : lv_has ls 2 [(0, .ref p0), (1, .int 0)] := hl
  have w_0 : (Cond.fieldLink RX7 285 "WishSeaModel" "out" "[I").before args s = true := hts _ (List.mem_of_getElem? (i := 1) rfl)
  have w_1 : (Cond.fieldLink RX7 288 "WishSeaModel" "outs" "I").before args s = true := hts _ (List.mem_of_getElem? (i := 2) rfl)
  have hinX7 : ∀ w ∈ u_ws RX7 TX7 92, w ∈ wsX7_writes := fun _ h => List.mem_cons_of_mem _ (List.mem_append_right _ h)
  refine lv_aload_n hx hb dX7_writes_0 rfl (lv_at hl 0 rfl) ?_
  refine k_get (D := (dC, dI)) (ci := 7) (v := .ref (p1 90)) (C := RX7) (T := TX7) (N := 92) hx hb hts hinX7 hown hK hP 0 rfl rfl 90 (by decide) w_0 rfl rfl dX7_writes_1 ?_
  refine lv_aload_n hx hb dX7_writes_4 rfl (lv_at hl 0 rfl) ?_
  refine k_get (D := (dC, dI)) (ci := 7) (v := .int 3) (C := RX7) (T := TX7) (N := 92) hx hb hts hinX7 hown hK hP 0 rfl rfl 91 (by decide) w_1 rfl rfl dX7_writes_5 ?_
  refine lv_iload_n hx hb dX7_writes_8 rfl (lv_at hl 1 rfl) ?_
  refine lv_sipush (v := 255) hx hb dX7_writes_9 (by decide +kernel) ?_
  refine lv_iand hx hb dX7_writes_12 ?_
  refine k_int (v := 0) (by decide +kernel) ?_
  refine k_iast (g := (upd (upd (upd (upd (fun _ => 0) 0 0) 1 0) 2 0) 3 0)) (ws' := [(p0, .inr (7, oM p1 (upd i7 91 3) j7)), ((p1 90), .inl (cI, 12, .inl (upd (upd (upd (upd (fun _ => 0) 0 0) 1 0) 2 0) 3 0)))]) hx hb hK hP hD hS 1 0 3 rfl rfl rfl (Nat.le_of_ble_eq_true rfl) (Nat.le_of_ble_eq_true rfl) rfl rfl dX7_writes_13 (fun H locs hP hD hS => ?_)
  refine lv_aload_n hx hb dX7_writes_14 rfl (lv_at hl 0 rfl) ?_
  refine lv_dup hx hb dX7_writes_15 rfl ?_
  refine k_get (D := (dC, dI)) (ci := 7) (v := .int 3) (C := RX7) (T := TX7) (N := 92) hx hb hts hinX7 hown hK hP 0 rfl rfl 91 (by decide) w_1 rfl rfl dX7_writes_16 ?_
  refine lv_iconst (v := 1) hx hb dX7_writes_19 (by decide +kernel) ?_
  refine lv_iadd hx hb dX7_writes_20 ?_
  refine k_int (v := 4) (by decide +kernel) ?_
  refine k_put (D := (dC, dI)) (ci := 7) (v := .int 4) (C := RX7) (T := TX7) (N := 92) (ws' := [(p0, .inr (7, oM p1 (upd i7 91 4) j7)), ((p1 90), .inl (cI, 12, .inl (upd (upd (upd (upd (fun _ => 0) 0 0) 1 0) 2 0) 3 0)))]) hx hb hts hinX7 tyX7 tyX7_ok nmX7 hown hK hP hD hS 0 rfl rfl 91 (by decide) w_1 rfl rfl rfl rfl (Nat.le_of_ble_eq_true rfl) rfl dX7_writes_21 (fun H locs hP hD hS => ?_)
  exact k_rv B hP hD hS dX7_writes_24 () [0, 1] rfl rfl (Nat.le_of_ble_eq_true rfl) (Nat.le_of_ble_eq_true rfl) trivial
set_option maxHeartbeats 4000000 in
set_option maxRecDepth 100000 in
theorem c_X7_writes_v4 (l : Launch) (dC : Nat → ClassId) (dI : Nat → Nat → Nat) (cI cJ cZ cM : ClassId) (p0 : Nat) (p1 : Nat → Nat)   : k_Mv l yX7_writes wsX7_writes ({ frames := 1, cells := 0, slots := 0, locals := 40 }) (dC, dI) vwCl (tyy cI cJ cZ cM) [(p0, .inr (7, oM p1 (upd i7 91 4) j7)), ((p1 90), .inl (cI, 12, .inl (upd (upd (upd (upd (fun _ => 0) 0 0) 1 0) 2 0) 3 0)))] [.ref p0, .int 0] 0 0 (fun (u9 : Unit) => [(p0, .inr (7, oM p1 (upd i7 91 5) j7)), ((p1 90), .inl (cI, 12, .inl (upd (upd (upd (upd (upd (fun _ => 0) 0 0) 1 0) 2 0) 3 0) 4 0)))]) (fun (u9 : Unit) => True) := by
  refine fun sz => k_enter (cc := cX7_writes) (maxL := 2) (ret := none) (Qc := fun A => va_Qv (fun (u9 : Unit) => True) (fun u => k_B (dC, dI) vwCl (tyy cI cJ cZ cM) A ((fun (u9 : Unit) => [(p0, .inr (7, oM p1 (upd i7 91 5) j7)), ((p1 90), .inl (cI, 12, .inl (upd (upd (upd (upd (upd (fun _ => 0) 0 0) 1 0) 2 0) 3 0) 4 0)))]) u)) A) sz (by decide +kernel) rfl (Nat.le_of_ble_eq_true rfl) (fun p e s m args below meth c A ls H B hP hD hS hl => ?_)
  obtain ⟨hx, hb, hml, hown, hts, hr, hlk, hnm, hK, hA, hN⟩ := id B
  have hown : s.vm.findClass RX7 = some m.cls := hown
  have hl : lv_has ls 2 [(0, .ref p0), (1, .int 0)] := hl
  have w_0 : (Cond.fieldLink RX7 285 "WishSeaModel" "out" "[I").before args s = true := hts _ (List.mem_of_getElem? (i := 1) rfl)
  have w_1 : (Cond.fieldLink RX7 288 "WishSeaModel" "outs" "I").before args s = true := hts _ (List.mem_of_getElem? (i := 2) rfl)
  have hinX7 : ∀ w ∈ u_ws RX7 TX7 92, w ∈ wsX7_writes := fun _ h => List.mem_cons_of_mem _ (List.mem_append_right _ h)
  refine lv_aload_n hx hb dX7_writes_0 rfl (lv_at hl 0 rfl) ?_
  refine k_get (D := (dC, dI)) (ci := 7) (v := .ref (p1 90)) (C := RX7) (T := TX7) (N := 92) hx hb hts hinX7 hown hK hP 0 rfl rfl 90 (by decide) w_0 rfl rfl dX7_writes_1 ?_
  refine lv_aload_n hx hb dX7_writes_4 rfl (lv_at hl 0 rfl) ?_
  refine k_get (D := (dC, dI)) (ci := 7) (v := .int 4) (C := RX7) (T := TX7) (N := 92) hx hb hts hinX7 hown hK hP 0 rfl rfl 91 (by decide) w_1 rfl rfl dX7_writes_5 ?_
  refine lv_iload_n hx hb dX7_writes_8 rfl (lv_at hl 1 rfl) ?_
  refine lv_sipush (v := 255) hx hb dX7_writes_9 (by decide +kernel) ?_
  refine lv_iand hx hb dX7_writes_12 ?_
  refine k_int (v := 0) (by decide +kernel) ?_
  refine k_iast (g := (upd (upd (upd (upd (upd (fun _ => 0) 0 0) 1 0) 2 0) 3 0) 4 0)) (ws' := [(p0, .inr (7, oM p1 (upd i7 91 4) j7)), ((p1 90), .inl (cI, 12, .inl (upd (upd (upd (upd (upd (fun _ => 0) 0 0) 1 0) 2 0) 3 0) 4 0)))]) hx hb hK hP hD hS 1 0 4 rfl rfl rfl (Nat.le_of_ble_eq_true rfl) (Nat.le_of_ble_eq_true rfl) rfl rfl dX7_writes_13 (fun H locs hP hD hS => ?_)
  refine lv_aload_n hx hb dX7_writes_14 rfl (lv_at hl 0 rfl) ?_
  refine lv_dup hx hb dX7_writes_15 rfl ?_
  refine k_get (D := (dC, dI)) (ci := 7) (v := .int 4) (C := RX7) (T := TX7) (N := 92) hx hb hts hinX7 hown hK hP 0 rfl rfl 91 (by decide) w_1 rfl rfl dX7_writes_16 ?_
  refine lv_iconst (v := 1) hx hb dX7_writes_19 (by decide +kernel) ?_
  refine lv_iadd hx hb dX7_writes_20 ?_
  refine k_int (v := 5) (by decide +kernel) ?_
  refine k_put (D := (dC, dI)) (ci := 7) (v := .int 5) (C := RX7) (T := TX7) (N := 92) (ws' := [(p0, .inr (7, oM p1 (upd i7 91 5) j7)), ((p1 90), .inl (cI, 12, .inl (upd (upd (upd (upd (upd (fun _ => 0) 0 0) 1 0) 2 0) 3 0) 4 0)))]) hx hb hts hinX7 tyX7 tyX7_ok nmX7 hown hK hP hD hS 0 rfl rfl 91 (by decide) w_1 rfl rfl rfl rfl (Nat.le_of_ble_eq_true rfl) rfl dX7_writes_21 (fun H locs hP hD hS => ?_)
  exact k_rv B hP hD hS dX7_writes_24 () [0, 1] rfl rfl (Nat.le_of_ble_eq_true rfl) (Nat.le_of_ble_eq_true rfl) trivial
set_option maxHeartbeats 4000000 in
set_option maxRecDepth 100000 in
theorem c_X7_writes_v5 (l : Launch) (dC : Nat → ClassId) (dI : Nat → Nat → Nat) (cI cJ cZ cM : ClassId) (p0 : Nat) (p1 : Nat → Nat)   : k_Mv l yX7_writes wsX7_writes ({ frames := 1, cells := 0, slots := 0, locals := 40 }) (dC, dI) vwCl (tyy cI cJ cZ cM) [(p0, .inr (7, oM p1 (upd i7 91 5) j7)), ((p1 90), .inl (cI, 12, .inl (upd (upd (upd (upd (upd (fun _ => 0) 0 0) 1 0) 2 0) 3 0) 4 0)))] [.ref p0, .int 0] 0 0 (fun (u9 : Unit) => [(p0, .inr (7, oM p1 (upd i7 91 6) j7)), ((p1 90), .inl (cI, 12, .inl (upd (upd (upd (upd (upd (upd (fun _ => 0) 0 0) 1 0) 2 0) 3 0) 4 0) 5 0)))]) (fun (u9 : Unit) => True) := by
  refine fun sz => k_enter (cc := cX7_writes) (maxL := 2) (ret := none) (Qc := fun A => va_Qv (fun (u9 : Unit) => True) (fun u => k_B (dC, dI) vwCl (tyy cI cJ cZ cM) A ((fun (u9 : Unit) => [(p0, .inr (7, oM p1 (upd i7 91 6) j7)), ((p1 90), .inl (cI, 12, .inl (upd (upd (upd (upd (upd (upd (fun _ => 0) 0 0) 1 0) 2 0) 3 0) 4 0) 5 0)))]) u)) A) sz (by decide +kernel) rfl (Nat.le_of_ble_eq_true rfl) (fun p e s m args below meth c A ls H B hP hD hS hl => ?_)
  obtain ⟨hx, hb, hml, hown, hts, hr, hlk, hnm, hK, hA, hN⟩ := id B
  have hown : s.vm.findClass RX7 = some m.cls := hown
  have hl : lv_has ls 2 [(0, .ref p0), (1, .int 0)] := hl
  have w_0 : (Cond.fieldLink RX7 285 "WishSeaModel" "out" "[I").before args s = true := hts _ (List.mem_of_getElem? (i := 1) rfl)
  have w_1 : (Cond.fieldLink RX7 288 "WishSeaModel" "outs" "I").before args s = true := hts _ (List.mem_of_getElem? (i := 2) rfl)
  have hinX7 : ∀ w ∈ u_ws RX7 TX7 92, w ∈ wsX7_writes := fun _ h => List.mem_cons_of_mem _ (List.mem_append_right _ h)
  refine lv_aload_n hx hb dX7_writes_0 rfl (lv_at hl 0 rfl) ?_
  refine k_get (D := (dC, dI)) (ci := 7) (v := .ref (p1 90)) (C := RX7) (T := TX7) (N := 92) hx hb hts hinX7 hown hK hP 0 rfl rfl 90 (by decide) w_0 rfl rfl dX7_writes_1 ?_
  refine lv_aload_n hx hb dX7_writes_4 rfl (lv_at hl 0 rfl) ?_
  refine k_get (D := (dC, dI)) (ci := 7) (v := .int 5) (C := RX7) (T := TX7) (N := 92) hx hb hts hinX7 hown hK hP 0 rfl rfl 91 (by decide) w_1 rfl rfl dX7_writes_5 ?_
  refine lv_iload_n hx hb dX7_writes_8 rfl (lv_at hl 1 rfl) ?_
  refine lv_sipush (v := 255) hx hb dX7_writes_9 (by decide +kernel) ?_
  refine lv_iand hx hb dX7_writes_12 ?_
  refine k_int (v := 0) (by decide +kernel) ?_
  refine k_iast (g := (upd (upd (upd (upd (upd (upd (fun _ => 0) 0 0) 1 0) 2 0) 3 0) 4 0) 5 0)) (ws' := [(p0, .inr (7, oM p1 (upd i7 91 5) j7)), ((p1 90), .inl (cI, 12, .inl (upd (upd (upd (upd (upd (upd (fun _ => 0) 0 0) 1 0) 2 0) 3 0) 4 0) 5 0)))]) hx hb hK hP hD hS 1 0 5 rfl rfl rfl (Nat.le_of_ble_eq_true rfl) (Nat.le_of_ble_eq_true rfl) rfl rfl dX7_writes_13 (fun H locs hP hD hS => ?_)
  refine lv_aload_n hx hb dX7_writes_14 rfl (lv_at hl 0 rfl) ?_
  refine lv_dup hx hb dX7_writes_15 rfl ?_
  refine k_get (D := (dC, dI)) (ci := 7) (v := .int 5) (C := RX7) (T := TX7) (N := 92) hx hb hts hinX7 hown hK hP 0 rfl rfl 91 (by decide) w_1 rfl rfl dX7_writes_16 ?_
  refine lv_iconst (v := 1) hx hb dX7_writes_19 (by decide +kernel) ?_
  refine lv_iadd hx hb dX7_writes_20 ?_
  refine k_int (v := 6) (by decide +kernel) ?_
  refine k_put (D := (dC, dI)) (ci := 7) (v := .int 6) (C := RX7) (T := TX7) (N := 92) (ws' := [(p0, .inr (7, oM p1 (upd i7 91 6) j7)), ((p1 90), .inl (cI, 12, .inl (upd (upd (upd (upd (upd (upd (fun _ => 0) 0 0) 1 0) 2 0) 3 0) 4 0) 5 0)))]) hx hb hts hinX7 tyX7 tyX7_ok nmX7 hown hK hP hD hS 0 rfl rfl 91 (by decide) w_1 rfl rfl rfl rfl (Nat.le_of_ble_eq_true rfl) rfl dX7_writes_21 (fun H locs hP hD hS => ?_)
  exact k_rv B hP hD hS dX7_writes_24 () [0, 1] rfl rfl (Nat.le_of_ble_eq_true rfl) (Nat.le_of_ble_eq_true rfl) trivial
set_option maxHeartbeats 4000000 in
set_option maxRecDepth 100000 in
theorem c_X7_writes_v6 (l : Launch) (dC : Nat → ClassId) (dI : Nat → Nat → Nat) (cI cJ cZ cM : ClassId) (p0 : Nat) (p1 : Nat → Nat)   : k_Mv l yX7_writes wsX7_writes ({ frames := 1, cells := 0, slots := 0, locals := 40 }) (dC, dI) vwCl (tyy cI cJ cZ cM) [(p0, .inr (7, oM p1 (upd i7 91 6) j7)), ((p1 90), .inl (cI, 12, .inl (upd (upd (upd (upd (upd (upd (fun _ => 0) 0 0) 1 0) 2 0) 3 0) 4 0) 5 0)))] [.ref p0, .int 0] 0 0 (fun (u9 : Unit) => [(p0, .inr (7, oM p1 (upd i7 91 7) j7)), ((p1 90), .inl (cI, 12, .inl (upd (upd (upd (upd (upd (upd (upd (fun _ => 0) 0 0) 1 0) 2 0) 3 0) 4 0) 5 0) 6 0)))]) (fun (u9 : Unit) => True) := by
  refine fun sz => k_enter (cc := cX7_writes) (maxL := 2) (ret := none) (Qc := fun A => va_Qv (fun (u9 : Unit) => True) (fun u => k_B (dC, dI) vwCl (tyy cI cJ cZ cM) A ((fun (u9 : Unit) => [(p0, .inr (7, oM p1 (upd i7 91 7) j7)), ((p1 90), .inl (cI, 12, .inl (upd (upd (upd (upd (upd (upd (upd (fun _ => 0) 0 0) 1 0) 2 0) 3 0) 4 0) 5 0) 6 0)))]) u)) A) sz (by decide +kernel) rfl (Nat.le_of_ble_eq_true rfl) (fun p e s m args below meth c A ls H B hP hD hS hl => ?_)
  obtain ⟨hx, hb, hml, hown, hts, hr, hlk, hnm, hK, hA, hN⟩ := id B
  have hown : s.vm.findClass RX7 = some m.cls := hown
  have hl : lv_has ls 2 [(0, .ref p0), (1, .int 0)] := hl
  have w_0 : (Cond.fieldLink RX7 285 "WishSeaModel" "out" "[I").before args s = true := hts _ (List.mem_of_getElem? (i := 1) rfl)
  have w_1 : (Cond.fieldLink RX7 288 "WishSeaModel" "outs" "I").before args s = true := hts _ (List.mem_of_getElem? (i := 2) rfl)
  have hinX7 : ∀ w ∈ u_ws RX7 TX7 92, w ∈ wsX7_writes := fun _ h => List.mem_cons_of_mem _ (List.mem_append_right _ h)
  refine lv_aload_n hx hb dX7_writes_0 rfl (lv_at hl 0 rfl) ?_
  refine k_get (D := (dC, dI)) (ci := 7) (v := .ref (p1 90)) (C := RX7) (T := TX7) (N := 92) hx hb hts hinX7 hown hK hP 0 rfl rfl 90 (by decide) w_0 rfl rfl dX7_writes_1 ?_
  refine lv_aload_n hx hb dX7_writes_4 rfl (lv_at hl 0 rfl) ?_
  refine k_get (D := (dC, dI)) (ci := 7) (v := .int 6) (C := RX7) (T := TX7) (N := 92) hx hb hts hinX7 hown hK hP 0 rfl rfl 91 (by decide) w_1 rfl rfl dX7_writes_5 ?_
  refine lv_iload_n hx hb dX7_writes_8 rfl (lv_at hl 1 rfl) ?_
  refine lv_sipush (v := 255) hx hb dX7_writes_9 (by decide +kernel) ?_
  refine lv_iand hx hb dX7_writes_12 ?_
  refine k_int (v := 0) (by decide +kernel) ?_
  refine k_iast (g := (upd (upd (upd (upd (upd (upd (upd (fun _ => 0) 0 0) 1 0) 2 0) 3 0) 4 0) 5 0) 6 0)) (ws' := [(p0, .inr (7, oM p1 (upd i7 91 6) j7)), ((p1 90), .inl (cI, 12, .inl (upd (upd (upd (upd (upd (upd (upd (fun _ => 0) 0 0) 1 0) 2 0) 3 0) 4 0) 5 0) 6 0)))]) hx hb hK hP hD hS 1 0 6 rfl rfl rfl (Nat.le_of_ble_eq_true rfl) (Nat.le_of_ble_eq_true rfl) rfl rfl dX7_writes_13 (fun H locs hP hD hS => ?_)
  refine lv_aload_n hx hb dX7_writes_14 rfl (lv_at hl 0 rfl) ?_
  refine lv_dup hx hb dX7_writes_15 rfl ?_
  refine k_get (D := (dC, dI)) (ci := 7) (v := .int 6) (C := RX7) (T := TX7) (N := 92) hx hb hts hinX7 hown hK hP 0 rfl rfl 91 (by decide) w_1 rfl rfl dX7_writes_16 ?_
  refine lv_iconst (v := 1) hx hb dX7_writes_19 (by decide +kernel) ?_
  refine lv_iadd hx hb dX7_writes_20 ?_
  refine k_int (v := 7) (by decide +kernel) ?_
  refine k_put (D := (dC, dI)) (ci := 7) (v := .int 7) (C := RX7) (T := TX7) (N := 92) (ws' := [(p0, .inr (7, oM p1 (upd i7 91 7) j7)), ((p1 90), .inl (cI, 12, .inl (upd (upd (upd (upd (upd (upd (upd (fun _ => 0) 0 0) 1 0) 2 0) 3 0) 4 0) 5 0) 6 0)))]) hx hb hts hinX7 tyX7 tyX7_ok nmX7 hown hK hP hD hS 0 rfl rfl 91 (by decide) w_1 rfl rfl rfl rfl (Nat.le_of_ble_eq_true rfl) rfl dX7_writes_21 (fun H locs hP hD hS => ?_)
  exact k_rv B hP hD hS dX7_writes_24 () [0, 1] rfl rfl (Nat.le_of_ble_eq_true rfl) (Nat.le_of_ble_eq_true rfl) trivial
set_option maxHeartbeats 4000000 in
set_option maxRecDepth 100000 in
theorem c_X7_writes_v7 (l : Launch) (dC : Nat → ClassId) (dI : Nat → Nat → Nat) (cI cJ cZ cM : ClassId) (p0 : Nat) (p1 : Nat → Nat)   : k_Mv l yX7_writes wsX7_writes ({ frames := 1, cells := 0, slots := 0, locals := 40 }) (dC, dI) vwCl (tyy cI cJ cZ cM) [(p0, .inr (7, oM p1 (upd i7 91 7) j7)), ((p1 90), .inl (cI, 12, .inl (upd (upd (upd (upd (upd (upd (upd (fun _ => 0) 0 0) 1 0) 2 0) 3 0) 4 0) 5 0) 6 0)))] [.ref p0, .int 0] 0 0 (fun (u9 : Unit) => [(p0, .inr (7, oM p1 (upd i7 91 8) j7)), ((p1 90), .inl (cI, 12, .inl (upd (upd (upd (upd (upd (upd (upd (upd (fun _ => 0) 0 0) 1 0) 2 0) 3 0) 4 0) 5 0) 6 0) 7 0)))]) (fun (u9 : Unit) => True) := by
  refine fun sz => k_enter (cc := cX7_writes) (maxL := 2) (ret := none) (Qc := fun A => va_Qv (fun (u9 : Unit) => True) (fun u => k_B (dC, dI) vwCl (tyy cI cJ cZ cM) A ((fun (u9 : Unit) => [(p0, .inr (7, oM p1 (upd i7 91 8) j7)), ((p1 90), .inl (cI, 12, .inl (upd (upd (upd (upd (upd (upd (upd (upd (fun _ => 0) 0 0) 1 0) 2 0) 3 0) 4 0) 5 0) 6 0) 7 0)))]) u)) A) sz (by decide +kernel) rfl (Nat.le_of_ble_eq_true rfl) (fun p e s m args below meth c A ls H B hP hD hS hl => ?_)
  obtain ⟨hx, hb, hml, hown, hts, hr, hlk, hnm, hK, hA, hN⟩ := id B
  have hown : s.vm.findClass RX7 = some m.cls := hown
  have hl : lv_has ls 2 [(0, .ref p0), (1, .int 0)] := hl
  have w_0 : (Cond.fieldLink RX7 285 "WishSeaModel" "out" "[I").before args s = true := hts _ (List.mem_of_getElem? (i := 1) rfl)
  have w_1 : (Cond.fieldLink RX7 288 "WishSeaModel" "outs" "I").before args s = true := hts _ (List.mem_of_getElem? (i := 2) rfl)
  have hinX7 : ∀ w ∈ u_ws RX7 TX7 92, w ∈ wsX7_writes := fun _ h => List.mem_cons_of_mem _ (List.mem_append_right _ h)
  refine lv_aload_n hx hb dX7_writes_0 rfl (lv_at hl 0 rfl) ?_
  refine k_get (D := (dC, dI)) (ci := 7) (v := .ref (p1 90)) (C := RX7) (T := TX7) (N := 92) hx hb hts hinX7 hown hK hP 0 rfl rfl 90 (by decide) w_0 rfl rfl dX7_writes_1 ?_
  refine lv_aload_n hx hb dX7_writes_4 rfl (lv_at hl 0 rfl) ?_
  refine k_get (D := (dC, dI)) (ci := 7) (v := .int 7) (C := RX7) (T := TX7) (N := 92) hx hb hts hinX7 hown hK hP 0 rfl rfl 91 (by decide) w_1 rfl rfl dX7_writes_5 ?_
  refine lv_iload_n hx hb dX7_writes_8 rfl (lv_at hl 1 rfl) ?_
  refine lv_sipush (v := 255) hx hb dX7_writes_9 (by decide +kernel) ?_
  refine lv_iand hx hb dX7_writes_12 ?_
  refine k_int (v := 0) (by decide +kernel) ?_
  refine k_iast (g := (upd (upd (upd (upd (upd (upd (upd (upd (fun _ => 0) 0 0) 1 0) 2 0) 3 0) 4 0) 5 0) 6 0) 7 0)) (ws' := [(p0, .inr (7, oM p1 (upd i7 91 7) j7)), ((p1 90), .inl (cI, 12, .inl (upd (upd (upd (upd (upd (upd (upd (upd (fun _ => 0) 0 0) 1 0) 2 0) 3 0) 4 0) 5 0) 6 0) 7 0)))]) hx hb hK hP hD hS 1 0 7 rfl rfl rfl (Nat.le_of_ble_eq_true rfl) (Nat.le_of_ble_eq_true rfl) rfl rfl dX7_writes_13 (fun H locs hP hD hS => ?_)
  refine lv_aload_n hx hb dX7_writes_14 rfl (lv_at hl 0 rfl) ?_
  refine lv_dup hx hb dX7_writes_15 rfl ?_
  refine k_get (D := (dC, dI)) (ci := 7) (v := .int 7) (C := RX7) (T := TX7) (N := 92) hx hb hts hinX7 hown hK hP 0 rfl rfl 91 (by decide) w_1 rfl rfl dX7_writes_16 ?_
  refine lv_iconst (v := 1) hx hb dX7_writes_19 (by decide +kernel) ?_
  refine lv_iadd hx hb dX7_writes_20 ?_
  refine k_int (v := 8) (by decide +kernel) ?_
  refine k_put (D := (dC, dI)) (ci := 7) (v := .int 8) (C := RX7) (T := TX7) (N := 92) (ws' := [(p0, .inr (7, oM p1 (upd i7 91 8) j7)), ((p1 90), .inl (cI, 12, .inl (upd (upd (upd (upd (upd (upd (upd (upd (fun _ => 0) 0 0) 1 0) 2 0) 3 0) 4 0) 5 0) 6 0) 7 0)))]) hx hb hts hinX7 tyX7 tyX7_ok nmX7 hown hK hP hD hS 0 rfl rfl 91 (by decide) w_1 rfl rfl rfl rfl (Nat.le_of_ble_eq_true rfl) rfl dX7_writes_21 (fun H locs hP hD hS => ?_)
  exact k_rv B hP hD hS dX7_writes_24 () [0, 1] rfl rfl (Nat.le_of_ble_eq_true rfl) (Nat.le_of_ble_eq_true rfl) trivial
set_option maxHeartbeats 4000000 in
set_option maxRecDepth 100000 in
theorem c_X7_writes_v8 (l : Launch) (dC : Nat → ClassId) (dI : Nat → Nat → Nat) (cI cJ cZ cM : ClassId) (p0 : Nat) (p1 : Nat → Nat)   : k_Mv l yX7_writes wsX7_writes ({ frames := 1, cells := 0, slots := 0, locals := 40 }) (dC, dI) vwCl (tyy cI cJ cZ cM) [(p0, .inr (7, oM p1 (upd i7 91 8) j7)), ((p1 90), .inl (cI, 12, .inl (upd (upd (upd (upd (upd (upd (upd (upd (fun _ => 0) 0 0) 1 0) 2 0) 3 0) 4 0) 5 0) 6 0) 7 0)))] [.ref p0, .int 167] 0 0 (fun (u9 : Unit) => [(p0, .inr (7, oM p1 (upd i7 91 9) j7)), ((p1 90), .inl (cI, 12, .inl (upd (upd (upd (upd (upd (upd (upd (upd (upd (fun _ => 0) 0 0) 1 0) 2 0) 3 0) 4 0) 5 0) 6 0) 7 0) 8 167)))]) (fun (u9 : Unit) => True) := by
  refine fun sz => k_enter (cc := cX7_writes) (maxL := 2) (ret := none) (Qc := fun A => va_Qv (fun (u9 : Unit) => True) (fun u => k_B (dC, dI) vwCl (tyy cI cJ cZ cM) A ((fun (u9 : Unit) => [(p0, .inr (7, oM p1 (upd i7 91 9) j7)), ((p1 90), .inl (cI, 12, .inl (upd (upd (upd (upd (upd (upd (upd (upd (upd (fun _ => 0) 0 0) 1 0) 2 0) 3 0) 4 0) 5 0) 6 0) 7 0) 8 167)))]) u)) A) sz (by decide +kernel) rfl (Nat.le_of_ble_eq_true rfl) (fun p e s m args below meth c A ls H B hP hD hS hl => ?_)
  obtain ⟨hx, hb, hml, hown, hts, hr, hlk, hnm, hK, hA, hN⟩ := id B
  have hown : s.vm.findClass RX7 = some m.cls := hown
  have hl : lv_has ls 2 [(0, .ref p0), (1, .int 167)] := hl
  have w_0 : (Cond.fieldLink RX7 285 "WishSeaModel" "out" "[I").before args s = true := hts _ (List.mem_of_getElem? (i := 1) rfl)
  have w_1 : (Cond.fieldLink RX7 288 "WishSeaModel" "outs" "I").before args s = true := hts _ (List.mem_of_getElem? (i := 2) rfl)
  have hinX7 : ∀ w ∈ u_ws RX7 TX7 92, w ∈ wsX7_writes := fun _ h => List.mem_cons_of_mem _ (List.mem_append_right _ h)
  refine lv_aload_n hx hb dX7_writes_0 rfl (lv_at hl 0 rfl) ?_
  refine k_get (D := (dC, dI)) (ci := 7) (v := .ref (p1 90)) (C := RX7) (T := TX7) (N := 92) hx hb hts hinX7 hown hK hP 0 rfl rfl 90 (by decide) w_0 rfl rfl dX7_writes_1 ?_
  refine lv_aload_n hx hb dX7_writes_4 rfl (lv_at hl 0 rfl) ?_
  refine k_get (D := (dC, dI)) (ci := 7) (v := .int 8) (C := RX7) (T := TX7) (N := 92) hx hb hts hinX7 hown hK hP 0 rfl rfl 91 (by decide) w_1 rfl rfl dX7_writes_5 ?_
  refine lv_iload_n hx hb dX7_writes_8 rfl (lv_at hl 1 rfl) ?_
  refine lv_sipush (v := 255) hx hb dX7_writes_9 (by decide +kernel) ?_
  refine lv_iand hx hb dX7_writes_12 ?_
  refine k_int (v := 167) (by decide +kernel) ?_
  refine k_iast (g := (upd (upd (upd (upd (upd (upd (upd (upd (upd (fun _ => 0) 0 0) 1 0) 2 0) 3 0) 4 0) 5 0) 6 0) 7 0) 8 167)) (ws' := [(p0, .inr (7, oM p1 (upd i7 91 8) j7)), ((p1 90), .inl (cI, 12, .inl (upd (upd (upd (upd (upd (upd (upd (upd (upd (fun _ => 0) 0 0) 1 0) 2 0) 3 0) 4 0) 5 0) 6 0) 7 0) 8 167)))]) hx hb hK hP hD hS 1 0 8 rfl rfl rfl (Nat.le_of_ble_eq_true rfl) (Nat.le_of_ble_eq_true rfl) rfl rfl dX7_writes_13 (fun H locs hP hD hS => ?_)
  refine lv_aload_n hx hb dX7_writes_14 rfl (lv_at hl 0 rfl) ?_
  refine lv_dup hx hb dX7_writes_15 rfl ?_
  refine k_get (D := (dC, dI)) (ci := 7) (v := .int 8) (C := RX7) (T := TX7) (N := 92) hx hb hts hinX7 hown hK hP 0 rfl rfl 91 (by decide) w_1 rfl rfl dX7_writes_16 ?_
  refine lv_iconst (v := 1) hx hb dX7_writes_19 (by decide +kernel) ?_
  refine lv_iadd hx hb dX7_writes_20 ?_
  refine k_int (v := 9) (by decide +kernel) ?_
  refine k_put (D := (dC, dI)) (ci := 7) (v := .int 9) (C := RX7) (T := TX7) (N := 92) (ws' := [(p0, .inr (7, oM p1 (upd i7 91 9) j7)), ((p1 90), .inl (cI, 12, .inl (upd (upd (upd (upd (upd (upd (upd (upd (upd (fun _ => 0) 0 0) 1 0) 2 0) 3 0) 4 0) 5 0) 6 0) 7 0) 8 167)))]) hx hb hts hinX7 tyX7 tyX7_ok nmX7 hown hK hP hD hS 0 rfl rfl 91 (by decide) w_1 rfl rfl rfl rfl (Nat.le_of_ble_eq_true rfl) rfl dX7_writes_21 (fun H locs hP hD hS => ?_)
  exact k_rv B hP hD hS dX7_writes_24 () [0, 1] rfl rfl (Nat.le_of_ble_eq_true rfl) (Nat.le_of_ble_eq_true rfl) trivial
set_option maxHeartbeats 4000000 in
set_option maxRecDepth 100000 in
theorem c_X7_image_v0 (l : Launch) (dC : Nat → ClassId) (dI : Nat → Nat → Nat) (cI cJ cZ cM : ClassId) (p0 : Nat) (p1 : Nat → Nat)   : k_Mi l yX7_image wsX7_image ({ frames := 2, cells := 0, slots := 0, locals := 61 }) (dC, dI) vwCl (tyy cI cJ cZ cM) [(p0, .inr (7, oM p1 i7 j7)), ((p1 52), .inl (cI, 22, .inl (fun _ => 0))), ((p1 90), .inl (cI, 12, .inl (fun _ => 0))), ((p1 51), .inl (cI, 22, .inl (fun _ => 0))), ((p1 50), .inl (cI, 22, .inl (fun _ => 0))), ((p1 49), .inl (cI, 22, .inl (fun _ => 0)))] [.ref p0] 0 0 (fun (u9 : Unit) => [(p0, .inr (7, oM p1 (upd i7 91 9) j7)), ((p1 52), .inl (cI, 22, .inl (fun _ => 0))), ((p1 90), .inl (cI, 12, .inl (upd (upd (upd (upd (upd (upd (upd (upd (upd (fun _ => 0) 0 0) 1 0) 2 0) 3 0) 4 0) 5 0) 6 0) 7 0) 8 167))), ((p1 51), .inl (cI, 22, .inl (fun _ => 0))), ((p1 50), .inl (cI, 22, .inl (fun _ => 0))), ((p1 49), .inl (cI, 22, .inl (fun _ => 0)))]) (fun (r9 : Int32) (u9 : Unit) => r9 = 9) := by
  refine fun sz => k_enter (cc := cX7_image) (maxL := 3) (ret := some (.int)) (Qc := fun A => va_Qi (fun (r9 : Int32) (u9 : Unit) => r9 = 9) (fun u => k_B (dC, dI) vwCl (tyy cI cJ cZ cM) A ((fun (u9 : Unit) => [(p0, .inr (7, oM p1 (upd i7 91 9) j7)), ((p1 52), .inl (cI, 22, .inl (fun _ => 0))), ((p1 90), .inl (cI, 12, .inl (upd (upd (upd (upd (upd (upd (upd (upd (upd (fun _ => 0) 0 0) 1 0) 2 0) 3 0) 4 0) 5 0) 6 0) 7 0) 8 167))), ((p1 51), .inl (cI, 22, .inl (fun _ => 0))), ((p1 50), .inl (cI, 22, .inl (fun _ => 0))), ((p1 49), .inl (cI, 22, .inl (fun _ => 0)))]) u)) A) sz (by decide +kernel) rfl (Nat.le_of_ble_eq_true rfl) (fun p e s m args below meth c A ls H B hP hD hS hl => ?_)
  obtain ⟨hx, hb, hml, hown, hts, hr, hlk, hnm, hK, hA, hN⟩ := id B
  have hown : s.vm.findClass RX7 = some m.cls := hown
  have hl : lv_has ls 3 [(0, .ref p0)] := hl
  have w_0 : (Cond.fieldLink RX7 288 "WishSeaModel" "outs" "I").before args s = true := hts _ (List.mem_of_getElem? (i := 1) rfl)
  have w_1 : (Cond.fieldLink RX7 171 "WishSeaModel" "dayOf" "[I").before args s = true := hts _ (List.mem_of_getElem? (i := 2) rfl)
  have w_2 : (Cond.fieldLink RX7 168 "WishSeaModel" "saidOf" "[I").before args s = true := hts _ (List.mem_of_getElem? (i := 3) rfl)
  have w_3 : (Cond.fieldLink RX7 165 "WishSeaModel" "seaOf" "[I").before args s = true := hts _ (List.mem_of_getElem? (i := 4) rfl)
  have w_4 : (Cond.fieldLink RX7 162 "WishSeaModel" "hadOf" "[I").before args s = true := hts _ (List.mem_of_getElem? (i := 5) rfl)
  have w_5 : (Cond.fieldLink RX7 285 "WishSeaModel" "out" "[I").before args s = true := hts _ (List.mem_of_getElem? (i := 6) rfl)
  have hinX7 : ∀ w ∈ u_ws RX7 TX7 92, w ∈ wsX7_image := fun _ h => List.mem_cons_of_mem _ (List.mem_append_right _ h)
  refine lv_aload_n hx hb dX7_image_0 rfl (lv_at hl 0 rfl) ?_
  refine lv_iconst (v := 0) hx hb dX7_image_1 (by decide +kernel) ?_
  refine k_put (D := (dC, dI)) (ci := 7) (v := .int 0) (C := RX7) (T := TX7) (N := 92) (ws' := [(p0, .inr (7, oM p1 (upd i7 91 0) j7)), ((p1 52), .inl (cI, 22, .inl (fun _ => 0))), ((p1 90), .inl (cI, 12, .inl (fun _ => 0))), ((p1 51), .inl (cI, 22, .inl (fun _ => 0))), ((p1 50), .inl (cI, 22, .inl (fun _ => 0))), ((p1 49), .inl (cI, 22, .inl (fun _ => 0)))]) hx hb hts hinX7 tyX7 tyX7_ok nmX7 hown hK hP hD hS 0 rfl rfl 91 (by decide) w_0 rfl rfl rfl rfl (Nat.le_of_ble_eq_true rfl) rfl dX7_image_2 (fun H locs hP hD hS => ?_)
  refine lv_aload_n hx hb dX7_image_5 rfl (lv_at hl 0 rfl) ?_
  refine lv_aload_n hx hb dX7_image_6 rfl (lv_at hl 0 rfl) ?_
  refine k_get (D := (dC, dI)) (ci := 7) (v := .ref (p1 52)) (C := RX7) (T := TX7) (N := 92) hx hb hts hinX7 hown hK hP 0 rfl rfl 52 (by decide) w_1 rfl rfl dX7_image_7 ?_
  refine lv_iconst (v := 0) hx hb dX7_image_10 (by decide +kernel) ?_
  refine k_iald (v := 0) hx hb hK hP 1 0 0 rfl rfl rfl (Nat.le_of_ble_eq_true rfl) (Nat.le_of_ble_eq_true rfl) rfl dX7_image_11 ?_
  refine lv_bipush (v := 8) hx hb dX7_image_12 (by decide +kernel) ?_
  refine lv_ishr hx hb dX7_image_14 ?_
  refine k_int (v := 0) (by decide +kernel) ?_
  refine k_cv (wc := [(p0, .inr (7, oM p1 (upd i7 91 0) j7)), ((p1 90), .inl (cI, 12, .inl (fun _ => 0)))]) (wr := [((p1 52), .inl (cI, 22, .inl (fun _ => 0))), ((p1 51), .inl (cI, 22, .inl (fun _ => 0))), ((p1 50), .inl (cI, 22, .inl (fun _ => 0))), ((p1 49), .inl (cI, 22, .inl (fun _ => 0)))]) (fun hPc hDc => va_runV (As := [.int 0]) (rest := []) ⟨hx, hb, hml, hown, hts⟩ (c_X7_writes_v0 l dC dI cI cJ cZ cM p0 p1 H.size) (cwV 1 hts gX7_image_X7_writes rfl rfl rfl (by decide +kernel) ⟨(Nat.le_of_ble_eq_true rfl), (Nat.le_of_ble_eq_true rfl)⟩) (k_pV hPc hDc hK hN hP (q0 := 0) (ci := 7) rfl rfl) rfl rfl hl.1 rfl (lv_room (Nat.le_of_ble_eq_true rfl)) dX7_image_15 ⟨(Nat.le_of_ble_eq_true rfl), (Nat.le_of_ble_eq_true rfl)⟩) hP hD hS hA [0, 2] [1, 3, 4, 5] rfl rfl rfl rfl (by decide) (fun _ => rfl) 0 0 rfl rfl (fun u_2 H locs hw hP hD hS => ?_)
  have hP : va_P (dC, dI) vwCl [((p1 52), .inl (cI, 22, .inl (fun _ => 0))), ((p1 51), .inl (cI, 22, .inl (fun _ => 0))), ((p1 50), .inl (cI, 22, .inl (fun _ => 0))), ((p1 49), .inl (cI, 22, .inl (fun _ => 0))), (p0, .inr (7, oM p1 (upd i7 91 1) j7)), ((p1 90), .inl (cI, 12, .inl (upd (fun _ => 0) 0 0)))] H := hP
  have hD : va_D A [((p1 52), .inl (cI, 22, .inl (fun _ => 0))), ((p1 51), .inl (cI, 22, .inl (fun _ => 0))), ((p1 50), .inl (cI, 22, .inl (fun _ => 0))), ((p1 49), .inl (cI, 22, .inl (fun _ => 0))), (p0, .inr (7, oM p1 (upd i7 91 1) j7)), ((p1 90), .inl (cI, 12, .inl (upd (fun _ => 0) 0 0)))] := hD
  refine lv_aload_n hx hb dX7_image_18 rfl (lv_at hl 0 rfl) ?_
  refine lv_aload_n hx hb dX7_image_19 rfl (lv_at hl 0 rfl) ?_
  refine k_get (D := (dC, dI)) (ci := 7) (v := .ref (p1 52)) (C := RX7) (T := TX7) (N := 92) hx hb hts hinX7 hown hK hP 4 rfl rfl 52 (by decide) w_1 rfl rfl dX7_image_20 ?_
  refine lv_iconst (v := 0) hx hb dX7_image_23 (by decide +kernel) ?_
  refine k_iald (v := 0) hx hb hK hP 0 0 0 rfl rfl rfl (Nat.le_of_ble_eq_true rfl) (Nat.le_of_ble_eq_true rfl) rfl dX7_image_24 ?_
  refine k_cv (wc := [(p0, .inr (7, oM p1 (upd i7 91 1) j7)), ((p1 90), .inl (cI, 12, .inl (upd (fun _ => 0) 0 0)))]) (wr := [((p1 52), .inl (cI, 22, .inl (fun _ => 0))), ((p1 51), .inl (cI, 22, .inl (fun _ => 0))), ((p1 50), .inl (cI, 22, .inl (fun _ => 0))), ((p1 49), .inl (cI, 22, .inl (fun _ => 0)))]) (fun hPc hDc => va_runV (As := [.int 0]) (rest := []) ⟨hx, hb, hml, hown, hts⟩ (c_X7_writes_v1 l dC dI cI cJ cZ cM p0 p1 H.size) (cwV 1 hts gX7_image_X7_writes rfl rfl rfl (by decide +kernel) ⟨(Nat.le_of_ble_eq_true rfl), (Nat.le_of_ble_eq_true rfl)⟩) (k_pV hPc hDc hK hN hP (q0 := 4) (ci := 7) rfl rfl) rfl rfl hl.1 rfl (lv_room (Nat.le_of_ble_eq_true rfl)) dX7_image_25 ⟨(Nat.le_of_ble_eq_true rfl), (Nat.le_of_ble_eq_true rfl)⟩) hP hD hS hA [4, 5] [0, 1, 2, 3] rfl rfl rfl rfl (by decide) (fun _ => rfl) 0 0 rfl rfl (fun u_4 H locs hw hP hD hS => ?_)
  have hP : va_P (dC, dI) vwCl [((p1 52), .inl (cI, 22, .inl (fun _ => 0))), ((p1 51), .inl (cI, 22, .inl (fun _ => 0))), ((p1 50), .inl (cI, 22, .inl (fun _ => 0))), ((p1 49), .inl (cI, 22, .inl (fun _ => 0))), (p0, .inr (7, oM p1 (upd i7 91 2) j7)), ((p1 90), .inl (cI, 12, .inl (upd (upd (fun _ => 0) 0 0) 1 0)))] H := hP
  have hD : va_D A [((p1 52), .inl (cI, 22, .inl (fun _ => 0))), ((p1 51), .inl (cI, 22, .inl (fun _ => 0))), ((p1 50), .inl (cI, 22, .inl (fun _ => 0))), ((p1 49), .inl (cI, 22, .inl (fun _ => 0))), (p0, .inr (7, oM p1 (upd i7 91 2) j7)), ((p1 90), .inl (cI, 12, .inl (upd (upd (fun _ => 0) 0 0) 1 0)))] := hD
  refine lv_aload_n hx hb dX7_image_28 rfl (lv_at hl 0 rfl) ?_
  refine lv_aload_n hx hb dX7_image_29 rfl (lv_at hl 0 rfl) ?_
  refine k_get (D := (dC, dI)) (ci := 7) (v := .ref (p1 51)) (C := RX7) (T := TX7) (N := 92) hx hb hts hinX7 hown hK hP 4 rfl rfl 51 (by decide) w_2 rfl rfl dX7_image_30 ?_
  refine lv_iconst (v := 0) hx hb dX7_image_33 (by decide +kernel) ?_
  refine k_iald (v := 0) hx hb hK hP 1 0 0 rfl rfl rfl (Nat.le_of_ble_eq_true rfl) (Nat.le_of_ble_eq_true rfl) rfl dX7_image_34 ?_
  refine lv_bipush (v := 8) hx hb dX7_image_35 (by decide +kernel) ?_
  refine lv_ishr hx hb dX7_image_37 ?_
  refine k_int (v := 0) (by decide +kernel) ?_
  refine k_cv (wc := [(p0, .inr (7, oM p1 (upd i7 91 2) j7)), ((p1 90), .inl (cI, 12, .inl (upd (upd (fun _ => 0) 0 0) 1 0)))]) (wr := [((p1 52), .inl (cI, 22, .inl (fun _ => 0))), ((p1 51), .inl (cI, 22, .inl (fun _ => 0))), ((p1 50), .inl (cI, 22, .inl (fun _ => 0))), ((p1 49), .inl (cI, 22, .inl (fun _ => 0)))]) (fun hPc hDc => va_runV (As := [.int 0]) (rest := []) ⟨hx, hb, hml, hown, hts⟩ (c_X7_writes_v2 l dC dI cI cJ cZ cM p0 p1 H.size) (cwV 1 hts gX7_image_X7_writes rfl rfl rfl (by decide +kernel) ⟨(Nat.le_of_ble_eq_true rfl), (Nat.le_of_ble_eq_true rfl)⟩) (k_pV hPc hDc hK hN hP (q0 := 4) (ci := 7) rfl rfl) rfl rfl hl.1 rfl (lv_room (Nat.le_of_ble_eq_true rfl)) dX7_image_38 ⟨(Nat.le_of_ble_eq_true rfl), (Nat.le_of_ble_eq_true rfl)⟩) hP hD hS hA [4, 5] [0, 1, 2, 3] rfl rfl rfl rfl (by decide) (fun _ => rfl) 0 0 rfl rfl (fun u_6 H locs hw hP hD hS => ?_)
  have hP : va_P (dC, dI) vwCl [((p1 52), .inl (cI, 22, .inl (fun _ => 0))), ((p1 51), .inl (cI, 22, .inl (fun _ => 0))), ((p1 50), .inl (cI, 22, .inl (fun _ => 0))), ((p1 49), .inl (cI, 22, .inl (fun _ => 0))), (p0, .inr (7, oM p1 (upd i7 91 3) j7)), ((p1 90), .inl (cI, 12, .inl (upd (upd (upd (fun _ => 0) 0 0) 1 0) 2 0)))] H := hP
  have hD : va_D A [((p1 52), .inl (cI, 22, .inl (fun _ => 0))), ((p1 51), .inl (cI, 22, .inl (fun _ => 0))), ((p1 50), .inl (cI, 22, .inl (fun _ => 0))), ((p1 49), .inl (cI, 22, .inl (fun _ => 0))), (p0, .inr (7, oM p1 (upd i7 91 3) j7)), ((p1 90), .inl (cI, 12, .inl (upd (upd (upd (fun _ => 0) 0 0) 1 0) 2 0)))] := hD
  refine lv_aload_n hx hb dX7_image_41 rfl (lv_at hl 0 rfl) ?_
  refine lv_aload_n hx hb dX7_image_42 rfl (lv_at hl 0 rfl) ?_
  refine k_get (D := (dC, dI)) (ci := 7) (v := .ref (p1 51)) (C := RX7) (T := TX7) (N := 92) hx hb hts hinX7 hown hK hP 4 rfl rfl 51 (by decide) w_2 rfl rfl dX7_image_43 ?_
  refine lv_iconst (v := 0) hx hb dX7_image_46 (by decide +kernel) ?_
  refine k_iald (v := 0) hx hb hK hP 1 0 0 rfl rfl rfl (Nat.le_of_ble_eq_true rfl) (Nat.le_of_ble_eq_true rfl) rfl dX7_image_47 ?_
  refine k_cv (wc := [(p0, .inr (7, oM p1 (upd i7 91 3) j7)), ((p1 90), .inl (cI, 12, .inl (upd (upd (upd (fun _ => 0) 0 0) 1 0) 2 0)))]) (wr := [((p1 52), .inl (cI, 22, .inl (fun _ => 0))), ((p1 51), .inl (cI, 22, .inl (fun _ => 0))), ((p1 50), .inl (cI, 22, .inl (fun _ => 0))), ((p1 49), .inl (cI, 22, .inl (fun _ => 0)))]) (fun hPc hDc => va_runV (As := [.int 0]) (rest := []) ⟨hx, hb, hml, hown, hts⟩ (c_X7_writes_v3 l dC dI cI cJ cZ cM p0 p1 H.size) (cwV 1 hts gX7_image_X7_writes rfl rfl rfl (by decide +kernel) ⟨(Nat.le_of_ble_eq_true rfl), (Nat.le_of_ble_eq_true rfl)⟩) (k_pV hPc hDc hK hN hP (q0 := 4) (ci := 7) rfl rfl) rfl rfl hl.1 rfl (lv_room (Nat.le_of_ble_eq_true rfl)) dX7_image_48 ⟨(Nat.le_of_ble_eq_true rfl), (Nat.le_of_ble_eq_true rfl)⟩) hP hD hS hA [4, 5] [0, 1, 2, 3] rfl rfl rfl rfl (by decide) (fun _ => rfl) 0 0 rfl rfl (fun u_8 H locs hw hP hD hS => ?_)
  have hP : va_P (dC, dI) vwCl [((p1 52), .inl (cI, 22, .inl (fun _ => 0))), ((p1 51), .inl (cI, 22, .inl (fun _ => 0))), ((p1 50), .inl (cI, 22, .inl (fun _ => 0))), ((p1 49), .inl (cI, 22, .inl (fun _ => 0))), (p0, .inr (7, oM p1 (upd i7 91 4) j7)), ((p1 90), .inl (cI, 12, .inl (upd (upd (upd (upd (fun _ => 0) 0 0) 1 0) 2 0) 3 0)))] H := hP
  have hD : va_D A [((p1 52), .inl (cI, 22, .inl (fun _ => 0))), ((p1 51), .inl (cI, 22, .inl (fun _ => 0))), ((p1 50), .inl (cI, 22, .inl (fun _ => 0))), ((p1 49), .inl (cI, 22, .inl (fun _ => 0))), (p0, .inr (7, oM p1 (upd i7 91 4) j7)), ((p1 90), .inl (cI, 12, .inl (upd (upd (upd (upd (fun _ => 0) 0 0) 1 0) 2 0) 3 0)))] := hD
  refine lv_aload_n hx hb dX7_image_51 rfl (lv_at hl 0 rfl) ?_
  refine lv_aload_n hx hb dX7_image_52 rfl (lv_at hl 0 rfl) ?_
  refine k_get (D := (dC, dI)) (ci := 7) (v := .ref (p1 50)) (C := RX7) (T := TX7) (N := 92) hx hb hts hinX7 hown hK hP 4 rfl rfl 50 (by decide) w_3 rfl rfl dX7_image_53 ?_
  refine lv_iconst (v := 0) hx hb dX7_image_56 (by decide +kernel) ?_
  refine k_iald (v := 0) hx hb hK hP 2 0 0 rfl rfl rfl (Nat.le_of_ble_eq_true rfl) (Nat.le_of_ble_eq_true rfl) rfl dX7_image_57 ?_
  refine lv_bipush (v := 8) hx hb dX7_image_58 (by decide +kernel) ?_
  refine lv_ishr hx hb dX7_image_60 ?_
  refine k_int (v := 0) (by decide +kernel) ?_
  refine k_cv (wc := [(p0, .inr (7, oM p1 (upd i7 91 4) j7)), ((p1 90), .inl (cI, 12, .inl (upd (upd (upd (upd (fun _ => 0) 0 0) 1 0) 2 0) 3 0)))]) (wr := [((p1 52), .inl (cI, 22, .inl (fun _ => 0))), ((p1 51), .inl (cI, 22, .inl (fun _ => 0))), ((p1 50), .inl (cI, 22, .inl (fun _ => 0))), ((p1 49), .inl (cI, 22, .inl (fun _ => 0)))]) (fun hPc hDc => va_runV (As := [.int 0]) (rest := []) ⟨hx, hb, hml, hown, hts⟩ (c_X7_writes_v4 l dC dI cI cJ cZ cM p0 p1 H.size) (cwV 1 hts gX7_image_X7_writes rfl rfl rfl (by decide +kernel) ⟨(Nat.le_of_ble_eq_true rfl), (Nat.le_of_ble_eq_true rfl)⟩) (k_pV hPc hDc hK hN hP (q0 := 4) (ci := 7) rfl rfl) rfl rfl hl.1 rfl (lv_room (Nat.le_of_ble_eq_true rfl)) dX7_image_61 ⟨(Nat.le_of_ble_eq_true rfl), (Nat.le_of_ble_eq_true rfl)⟩) hP hD hS hA [4, 5] [0, 1, 2, 3] rfl rfl rfl rfl (by decide) (fun _ => rfl) 0 0 rfl rfl (fun u_10 H locs hw hP hD hS => ?_)
  have hP : va_P (dC, dI) vwCl [((p1 52), .inl (cI, 22, .inl (fun _ => 0))), ((p1 51), .inl (cI, 22, .inl (fun _ => 0))), ((p1 50), .inl (cI, 22, .inl (fun _ => 0))), ((p1 49), .inl (cI, 22, .inl (fun _ => 0))), (p0, .inr (7, oM p1 (upd i7 91 5) j7)), ((p1 90), .inl (cI, 12, .inl (upd (upd (upd (upd (upd (fun _ => 0) 0 0) 1 0) 2 0) 3 0) 4 0)))] H := hP
  have hD : va_D A [((p1 52), .inl (cI, 22, .inl (fun _ => 0))), ((p1 51), .inl (cI, 22, .inl (fun _ => 0))), ((p1 50), .inl (cI, 22, .inl (fun _ => 0))), ((p1 49), .inl (cI, 22, .inl (fun _ => 0))), (p0, .inr (7, oM p1 (upd i7 91 5) j7)), ((p1 90), .inl (cI, 12, .inl (upd (upd (upd (upd (upd (fun _ => 0) 0 0) 1 0) 2 0) 3 0) 4 0)))] := hD
  refine lv_aload_n hx hb dX7_image_64 rfl (lv_at hl 0 rfl) ?_
  refine lv_aload_n hx hb dX7_image_65 rfl (lv_at hl 0 rfl) ?_
  refine k_get (D := (dC, dI)) (ci := 7) (v := .ref (p1 50)) (C := RX7) (T := TX7) (N := 92) hx hb hts hinX7 hown hK hP 4 rfl rfl 50 (by decide) w_3 rfl rfl dX7_image_66 ?_
  refine lv_iconst (v := 0) hx hb dX7_image_69 (by decide +kernel) ?_
  refine k_iald (v := 0) hx hb hK hP 2 0 0 rfl rfl rfl (Nat.le_of_ble_eq_true rfl) (Nat.le_of_ble_eq_true rfl) rfl dX7_image_70 ?_
  refine k_cv (wc := [(p0, .inr (7, oM p1 (upd i7 91 5) j7)), ((p1 90), .inl (cI, 12, .inl (upd (upd (upd (upd (upd (fun _ => 0) 0 0) 1 0) 2 0) 3 0) 4 0)))]) (wr := [((p1 52), .inl (cI, 22, .inl (fun _ => 0))), ((p1 51), .inl (cI, 22, .inl (fun _ => 0))), ((p1 50), .inl (cI, 22, .inl (fun _ => 0))), ((p1 49), .inl (cI, 22, .inl (fun _ => 0)))]) (fun hPc hDc => va_runV (As := [.int 0]) (rest := []) ⟨hx, hb, hml, hown, hts⟩ (c_X7_writes_v5 l dC dI cI cJ cZ cM p0 p1 H.size) (cwV 1 hts gX7_image_X7_writes rfl rfl rfl (by decide +kernel) ⟨(Nat.le_of_ble_eq_true rfl), (Nat.le_of_ble_eq_true rfl)⟩) (k_pV hPc hDc hK hN hP (q0 := 4) (ci := 7) rfl rfl) rfl rfl hl.1 rfl (lv_room (Nat.le_of_ble_eq_true rfl)) dX7_image_71 ⟨(Nat.le_of_ble_eq_true rfl), (Nat.le_of_ble_eq_true rfl)⟩) hP hD hS hA [4, 5] [0, 1, 2, 3] rfl rfl rfl rfl (by decide) (fun _ => rfl) 0 0 rfl rfl (fun u_12 H locs hw hP hD hS => ?_)
  have hP : va_P (dC, dI) vwCl [((p1 52), .inl (cI, 22, .inl (fun _ => 0))), ((p1 51), .inl (cI, 22, .inl (fun _ => 0))), ((p1 50), .inl (cI, 22, .inl (fun _ => 0))), ((p1 49), .inl (cI, 22, .inl (fun _ => 0))), (p0, .inr (7, oM p1 (upd i7 91 6) j7)), ((p1 90), .inl (cI, 12, .inl (upd (upd (upd (upd (upd (upd (fun _ => 0) 0 0) 1 0) 2 0) 3 0) 4 0) 5 0)))] H := hP
  have hD : va_D A [((p1 52), .inl (cI, 22, .inl (fun _ => 0))), ((p1 51), .inl (cI, 22, .inl (fun _ => 0))), ((p1 50), .inl (cI, 22, .inl (fun _ => 0))), ((p1 49), .inl (cI, 22, .inl (fun _ => 0))), (p0, .inr (7, oM p1 (upd i7 91 6) j7)), ((p1 90), .inl (cI, 12, .inl (upd (upd (upd (upd (upd (upd (fun _ => 0) 0 0) 1 0) 2 0) 3 0) 4 0) 5 0)))] := hD
  refine lv_aload_n hx hb dX7_image_74 rfl (lv_at hl 0 rfl) ?_
  refine lv_aload_n hx hb dX7_image_75 rfl (lv_at hl 0 rfl) ?_
  refine k_get (D := (dC, dI)) (ci := 7) (v := .ref (p1 49)) (C := RX7) (T := TX7) (N := 92) hx hb hts hinX7 hown hK hP 4 rfl rfl 49 (by decide) w_4 rfl rfl dX7_image_76 ?_
  refine lv_iconst (v := 0) hx hb dX7_image_79 (by decide +kernel) ?_
  refine k_iald (v := 0) hx hb hK hP 3 0 0 rfl rfl rfl (Nat.le_of_ble_eq_true rfl) (Nat.le_of_ble_eq_true rfl) rfl dX7_image_80 ?_
  refine lv_bipush (v := 8) hx hb dX7_image_81 (by decide +kernel) ?_
  refine lv_ishr hx hb dX7_image_83 ?_
  refine k_int (v := 0) (by decide +kernel) ?_
  refine k_cv (wc := [(p0, .inr (7, oM p1 (upd i7 91 6) j7)), ((p1 90), .inl (cI, 12, .inl (upd (upd (upd (upd (upd (upd (fun _ => 0) 0 0) 1 0) 2 0) 3 0) 4 0) 5 0)))]) (wr := [((p1 52), .inl (cI, 22, .inl (fun _ => 0))), ((p1 51), .inl (cI, 22, .inl (fun _ => 0))), ((p1 50), .inl (cI, 22, .inl (fun _ => 0))), ((p1 49), .inl (cI, 22, .inl (fun _ => 0)))]) (fun hPc hDc => va_runV (As := [.int 0]) (rest := []) ⟨hx, hb, hml, hown, hts⟩ (c_X7_writes_v6 l dC dI cI cJ cZ cM p0 p1 H.size) (cwV 1 hts gX7_image_X7_writes rfl rfl rfl (by decide +kernel) ⟨(Nat.le_of_ble_eq_true rfl), (Nat.le_of_ble_eq_true rfl)⟩) (k_pV hPc hDc hK hN hP (q0 := 4) (ci := 7) rfl rfl) rfl rfl hl.1 rfl (lv_room (Nat.le_of_ble_eq_true rfl)) dX7_image_84 ⟨(Nat.le_of_ble_eq_true rfl), (Nat.le_of_ble_eq_true rfl)⟩) hP hD hS hA [4, 5] [0, 1, 2, 3] rfl rfl rfl rfl (by decide) (fun _ => rfl) 0 0 rfl rfl (fun u_14 H locs hw hP hD hS => ?_)
  have hP : va_P (dC, dI) vwCl [((p1 52), .inl (cI, 22, .inl (fun _ => 0))), ((p1 51), .inl (cI, 22, .inl (fun _ => 0))), ((p1 50), .inl (cI, 22, .inl (fun _ => 0))), ((p1 49), .inl (cI, 22, .inl (fun _ => 0))), (p0, .inr (7, oM p1 (upd i7 91 7) j7)), ((p1 90), .inl (cI, 12, .inl (upd (upd (upd (upd (upd (upd (upd (fun _ => 0) 0 0) 1 0) 2 0) 3 0) 4 0) 5 0) 6 0)))] H := hP
  have hD : va_D A [((p1 52), .inl (cI, 22, .inl (fun _ => 0))), ((p1 51), .inl (cI, 22, .inl (fun _ => 0))), ((p1 50), .inl (cI, 22, .inl (fun _ => 0))), ((p1 49), .inl (cI, 22, .inl (fun _ => 0))), (p0, .inr (7, oM p1 (upd i7 91 7) j7)), ((p1 90), .inl (cI, 12, .inl (upd (upd (upd (upd (upd (upd (upd (fun _ => 0) 0 0) 1 0) 2 0) 3 0) 4 0) 5 0) 6 0)))] := hD
  refine lv_aload_n hx hb dX7_image_87 rfl (lv_at hl 0 rfl) ?_
  refine lv_aload_n hx hb dX7_image_88 rfl (lv_at hl 0 rfl) ?_
  refine k_get (D := (dC, dI)) (ci := 7) (v := .ref (p1 49)) (C := RX7) (T := TX7) (N := 92) hx hb hts hinX7 hown hK hP 4 rfl rfl 49 (by decide) w_4 rfl rfl dX7_image_89 ?_
  refine lv_iconst (v := 0) hx hb dX7_image_92 (by decide +kernel) ?_
  refine k_iald (v := 0) hx hb hK hP 3 0 0 rfl rfl rfl (Nat.le_of_ble_eq_true rfl) (Nat.le_of_ble_eq_true rfl) rfl dX7_image_93 ?_
  refine k_cv (wc := [(p0, .inr (7, oM p1 (upd i7 91 7) j7)), ((p1 90), .inl (cI, 12, .inl (upd (upd (upd (upd (upd (upd (upd (fun _ => 0) 0 0) 1 0) 2 0) 3 0) 4 0) 5 0) 6 0)))]) (wr := [((p1 52), .inl (cI, 22, .inl (fun _ => 0))), ((p1 51), .inl (cI, 22, .inl (fun _ => 0))), ((p1 50), .inl (cI, 22, .inl (fun _ => 0))), ((p1 49), .inl (cI, 22, .inl (fun _ => 0)))]) (fun hPc hDc => va_runV (As := [.int 0]) (rest := []) ⟨hx, hb, hml, hown, hts⟩ (c_X7_writes_v7 l dC dI cI cJ cZ cM p0 p1 H.size) (cwV 1 hts gX7_image_X7_writes rfl rfl rfl (by decide +kernel) ⟨(Nat.le_of_ble_eq_true rfl), (Nat.le_of_ble_eq_true rfl)⟩) (k_pV hPc hDc hK hN hP (q0 := 4) (ci := 7) rfl rfl) rfl rfl hl.1 rfl (lv_room (Nat.le_of_ble_eq_true rfl)) dX7_image_94 ⟨(Nat.le_of_ble_eq_true rfl), (Nat.le_of_ble_eq_true rfl)⟩) hP hD hS hA [4, 5] [0, 1, 2, 3] rfl rfl rfl rfl (by decide) (fun _ => rfl) 0 0 rfl rfl (fun u_16 H locs hw hP hD hS => ?_)
  have hP : va_P (dC, dI) vwCl [((p1 52), .inl (cI, 22, .inl (fun _ => 0))), ((p1 51), .inl (cI, 22, .inl (fun _ => 0))), ((p1 50), .inl (cI, 22, .inl (fun _ => 0))), ((p1 49), .inl (cI, 22, .inl (fun _ => 0))), (p0, .inr (7, oM p1 (upd i7 91 8) j7)), ((p1 90), .inl (cI, 12, .inl (upd (upd (upd (upd (upd (upd (upd (upd (fun _ => 0) 0 0) 1 0) 2 0) 3 0) 4 0) 5 0) 6 0) 7 0)))] H := hP
  have hD : va_D A [((p1 52), .inl (cI, 22, .inl (fun _ => 0))), ((p1 51), .inl (cI, 22, .inl (fun _ => 0))), ((p1 50), .inl (cI, 22, .inl (fun _ => 0))), ((p1 49), .inl (cI, 22, .inl (fun _ => 0))), (p0, .inr (7, oM p1 (upd i7 91 8) j7)), ((p1 90), .inl (cI, 12, .inl (upd (upd (upd (upd (upd (upd (upd (upd (fun _ => 0) 0 0) 1 0) 2 0) 3 0) 4 0) 5 0) 6 0) 7 0)))] := hD
  refine lv_bipush (v := 97) hx hb dX7_image_97 (by decide +kernel) ?_
  refine lv_istore_n (lv' := [(1, .int 97), (0, .ref p0)]) hx hb dX7_image_99 rfl hl (by decide) rfl (fun ls hl => ?_)
  refine lv_iconst (v := 0) hx hb dX7_image_100 (by decide +kernel) ?_
  refine lv_istore_n (lv' := [(2, .int 0), (1, .int 97), (0, .ref p0)]) hx hb dX7_image_101 rfl hl (by decide) rfl (fun ls hl => ?_)
  refine lv_iload_n hx hb dX7_image_102 rfl (lv_at hl 0 rfl) ?_
  refine lv_aload_n hx hb dX7_image_103 rfl (lv_at hl 2 rfl) ?_
  refine k_get (D := (dC, dI)) (ci := 7) (v := .int 8) (C := RX7) (T := TX7) (N := 92) hx hb hts hinX7 hown hK hP 4 rfl rfl 91 (by decide) w_0 rfl rfl dX7_image_104 ?_
  refine lv_icmp_ge (tgt := 131) hx hb dX7_image_107 (by decide) (fun q9 => absurd q9 (by decide +kernel)) (fun _ => ?_)
  refine lv_iconst (v := 5) hx hb dX7_image_110 (by decide +kernel) ?_
  refine lv_iload_n hx hb dX7_image_111 rfl (lv_at hl 1 rfl) ?_
  refine lv_imul hx hb dX7_image_112 ?_
  refine k_int (v := 485) (by decide +kernel) ?_
  refine lv_aload_n hx hb dX7_image_113 rfl (lv_at hl 2 rfl) ?_
  refine k_get (D := (dC, dI)) (ci := 7) (v := .ref (p1 90)) (C := RX7) (T := TX7) (N := 92) hx hb hts hinX7 hown hK hP 4 rfl rfl 90 (by decide) w_5 rfl rfl dX7_image_114 ?_
  refine lv_iload_n hx hb dX7_image_117 rfl (lv_at hl 0 rfl) ?_
  refine k_iald (v := 0) hx hb hK hP 5 0 0 rfl rfl rfl (Nat.le_of_ble_eq_true rfl) (Nat.le_of_ble_eq_true rfl) rfl dX7_image_118 ?_
  refine lv_iadd hx hb dX7_image_119 ?_
  refine k_int (v := 485) (by decide +kernel) ?_
  refine lv_sipush (v := 251) hx hb dX7_image_120 (by decide +kernel) ?_
  refine lv_irem hx hb dX7_image_123 (by decide +kernel) ?_
  refine k_int (v := 234) (by decide +kernel) ?_
  refine lv_istore_n (lv' := [(1, .int 234), (2, .int 0), (0, .ref p0)]) hx hb dX7_image_124 rfl hl (by decide) rfl (fun ls hl => ?_)
  refine lv_iinc (v := 1) (lv' := [(2, .int 1), (1, .int 234), (0, .ref p0)]) hx hb dX7_image_125 hl (k := 1) rfl (by decide +kernel) (by decide) rfl (fun ls hl => ?_)
  refine lv_goto (tgt := 102) hx hb dX7_image_128 (by decide) ?_
  refine lv_iload_n hx hb dX7_image_102 rfl (lv_at hl 0 rfl) ?_
  refine lv_aload_n hx hb dX7_image_103 rfl (lv_at hl 2 rfl) ?_
  refine k_get (D := (dC, dI)) (ci := 7) (v := .int 8) (C := RX7) (T := TX7) (N := 92) hx hb hts hinX7 hown hK hP 4 rfl rfl 91 (by decide) w_0 rfl rfl dX7_image_104 ?_
  refine lv_icmp_ge (tgt := 131) hx hb dX7_image_107 (by decide) (fun q9 => absurd q9 (by decide +kernel)) (fun _ => ?_)
  refine lv_iconst (v := 5) hx hb dX7_image_110 (by decide +kernel) ?_
  refine lv_iload_n hx hb dX7_image_111 rfl (lv_at hl 1 rfl) ?_
  refine lv_imul hx hb dX7_image_112 ?_
  refine k_int (v := 1170) (by decide +kernel) ?_
  refine lv_aload_n hx hb dX7_image_113 rfl (lv_at hl 2 rfl) ?_
  refine k_get (D := (dC, dI)) (ci := 7) (v := .ref (p1 90)) (C := RX7) (T := TX7) (N := 92) hx hb hts hinX7 hown hK hP 4 rfl rfl 90 (by decide) w_5 rfl rfl dX7_image_114 ?_
  refine lv_iload_n hx hb dX7_image_117 rfl (lv_at hl 0 rfl) ?_
  refine k_iald (v := 0) hx hb hK hP 5 0 1 rfl rfl rfl (Nat.le_of_ble_eq_true rfl) (Nat.le_of_ble_eq_true rfl) rfl dX7_image_118 ?_
  refine lv_iadd hx hb dX7_image_119 ?_
  refine k_int (v := 1170) (by decide +kernel) ?_
  refine lv_sipush (v := 251) hx hb dX7_image_120 (by decide +kernel) ?_
  refine lv_irem hx hb dX7_image_123 (by decide +kernel) ?_
  refine k_int (v := 166) (by decide +kernel) ?_
  refine lv_istore_n (lv' := [(1, .int 166), (2, .int 1), (0, .ref p0)]) hx hb dX7_image_124 rfl hl (by decide) rfl (fun ls hl => ?_)
  refine lv_iinc (v := 2) (lv' := [(2, .int 2), (1, .int 166), (0, .ref p0)]) hx hb dX7_image_125 hl (k := 1) rfl (by decide +kernel) (by decide) rfl (fun ls hl => ?_)
  refine lv_goto (tgt := 102) hx hb dX7_image_128 (by decide) ?_
  refine lv_iload_n hx hb dX7_image_102 rfl (lv_at hl 0 rfl) ?_
  refine lv_aload_n hx hb dX7_image_103 rfl (lv_at hl 2 rfl) ?_
  refine k_get (D := (dC, dI)) (ci := 7) (v := .int 8) (C := RX7) (T := TX7) (N := 92) hx hb hts hinX7 hown hK hP 4 rfl rfl 91 (by decide) w_0 rfl rfl dX7_image_104 ?_
  refine lv_icmp_ge (tgt := 131) hx hb dX7_image_107 (by decide) (fun q9 => absurd q9 (by decide +kernel)) (fun _ => ?_)
  refine lv_iconst (v := 5) hx hb dX7_image_110 (by decide +kernel) ?_
  refine lv_iload_n hx hb dX7_image_111 rfl (lv_at hl 1 rfl) ?_
  refine lv_imul hx hb dX7_image_112 ?_
  refine k_int (v := 830) (by decide +kernel) ?_
  refine lv_aload_n hx hb dX7_image_113 rfl (lv_at hl 2 rfl) ?_
  refine k_get (D := (dC, dI)) (ci := 7) (v := .ref (p1 90)) (C := RX7) (T := TX7) (N := 92) hx hb hts hinX7 hown hK hP 4 rfl rfl 90 (by decide) w_5 rfl rfl dX7_image_114 ?_
  refine lv_iload_n hx hb dX7_image_117 rfl (lv_at hl 0 rfl) ?_
  refine k_iald (v := 0) hx hb hK hP 5 0 2 rfl rfl rfl (Nat.le_of_ble_eq_true rfl) (Nat.le_of_ble_eq_true rfl) rfl dX7_image_118 ?_
  refine lv_iadd hx hb dX7_image_119 ?_
  refine k_int (v := 830) (by decide +kernel) ?_
  refine lv_sipush (v := 251) hx hb dX7_image_120 (by decide +kernel) ?_
  refine lv_irem hx hb dX7_image_123 (by decide +kernel) ?_
  refine k_int (v := 77) (by decide +kernel) ?_
  refine lv_istore_n (lv' := [(1, .int 77), (2, .int 2), (0, .ref p0)]) hx hb dX7_image_124 rfl hl (by decide) rfl (fun ls hl => ?_)
  refine lv_iinc (v := 3) (lv' := [(2, .int 3), (1, .int 77), (0, .ref p0)]) hx hb dX7_image_125 hl (k := 1) rfl (by decide +kernel) (by decide) rfl (fun ls hl => ?_)
  refine lv_goto (tgt := 102) hx hb dX7_image_128 (by decide) ?_
  refine lv_iload_n hx hb dX7_image_102 rfl (lv_at hl 0 rfl) ?_
  refine lv_aload_n hx hb dX7_image_103 rfl (lv_at hl 2 rfl) ?_
  refine k_get (D := (dC, dI)) (ci := 7) (v := .int 8) (C := RX7) (T := TX7) (N := 92) hx hb hts hinX7 hown hK hP 4 rfl rfl 91 (by decide) w_0 rfl rfl dX7_image_104 ?_
  refine lv_icmp_ge (tgt := 131) hx hb dX7_image_107 (by decide) (fun q9 => absurd q9 (by decide +kernel)) (fun _ => ?_)
  refine lv_iconst (v := 5) hx hb dX7_image_110 (by decide +kernel) ?_
  refine lv_iload_n hx hb dX7_image_111 rfl (lv_at hl 1 rfl) ?_
  refine lv_imul hx hb dX7_image_112 ?_
  refine k_int (v := 385) (by decide +kernel) ?_
  refine lv_aload_n hx hb dX7_image_113 rfl (lv_at hl 2 rfl) ?_
  refine k_get (D := (dC, dI)) (ci := 7) (v := .ref (p1 90)) (C := RX7) (T := TX7) (N := 92) hx hb hts hinX7 hown hK hP 4 rfl rfl 90 (by decide) w_5 rfl rfl dX7_image_114 ?_
  refine lv_iload_n hx hb dX7_image_117 rfl (lv_at hl 0 rfl) ?_
  refine k_iald (v := 0) hx hb hK hP 5 0 3 rfl rfl rfl (Nat.le_of_ble_eq_true rfl) (Nat.le_of_ble_eq_true rfl) rfl dX7_image_118 ?_
  refine lv_iadd hx hb dX7_image_119 ?_
  refine k_int (v := 385) (by decide +kernel) ?_
  refine lv_sipush (v := 251) hx hb dX7_image_120 (by decide +kernel) ?_
  refine lv_irem hx hb dX7_image_123 (by decide +kernel) ?_
  refine k_int (v := 134) (by decide +kernel) ?_
  refine lv_istore_n (lv' := [(1, .int 134), (2, .int 3), (0, .ref p0)]) hx hb dX7_image_124 rfl hl (by decide) rfl (fun ls hl => ?_)
  refine lv_iinc (v := 4) (lv' := [(2, .int 4), (1, .int 134), (0, .ref p0)]) hx hb dX7_image_125 hl (k := 1) rfl (by decide +kernel) (by decide) rfl (fun ls hl => ?_)
  refine lv_goto (tgt := 102) hx hb dX7_image_128 (by decide) ?_
  refine lv_iload_n hx hb dX7_image_102 rfl (lv_at hl 0 rfl) ?_
  refine lv_aload_n hx hb dX7_image_103 rfl (lv_at hl 2 rfl) ?_
  refine k_get (D := (dC, dI)) (ci := 7) (v := .int 8) (C := RX7) (T := TX7) (N := 92) hx hb hts hinX7 hown hK hP 4 rfl rfl 91 (by decide) w_0 rfl rfl dX7_image_104 ?_
  refine lv_icmp_ge (tgt := 131) hx hb dX7_image_107 (by decide) (fun q9 => absurd q9 (by decide +kernel)) (fun _ => ?_)
  refine lv_iconst (v := 5) hx hb dX7_image_110 (by decide +kernel) ?_
  refine lv_iload_n hx hb dX7_image_111 rfl (lv_at hl 1 rfl) ?_
  refine lv_imul hx hb dX7_image_112 ?_
  refine k_int (v := 670) (by decide +kernel) ?_
  refine lv_aload_n hx hb dX7_image_113 rfl (lv_at hl 2 rfl) ?_
  refine k_get (D := (dC, dI)) (ci := 7) (v := .ref (p1 90)) (C := RX7) (T := TX7) (N := 92) hx hb hts hinX7 hown hK hP 4 rfl rfl 90 (by decide) w_5 rfl rfl dX7_image_114 ?_
  refine lv_iload_n hx hb dX7_image_117 rfl (lv_at hl 0 rfl) ?_
  refine k_iald (v := 0) hx hb hK hP 5 0 4 rfl rfl rfl (Nat.le_of_ble_eq_true rfl) (Nat.le_of_ble_eq_true rfl) rfl dX7_image_118 ?_
  refine lv_iadd hx hb dX7_image_119 ?_
  refine k_int (v := 670) (by decide +kernel) ?_
  refine lv_sipush (v := 251) hx hb dX7_image_120 (by decide +kernel) ?_
  refine lv_irem hx hb dX7_image_123 (by decide +kernel) ?_
  refine k_int (v := 168) (by decide +kernel) ?_
  refine lv_istore_n (lv' := [(1, .int 168), (2, .int 4), (0, .ref p0)]) hx hb dX7_image_124 rfl hl (by decide) rfl (fun ls hl => ?_)
  refine lv_iinc (v := 5) (lv' := [(2, .int 5), (1, .int 168), (0, .ref p0)]) hx hb dX7_image_125 hl (k := 1) rfl (by decide +kernel) (by decide) rfl (fun ls hl => ?_)
  refine lv_goto (tgt := 102) hx hb dX7_image_128 (by decide) ?_
  refine lv_iload_n hx hb dX7_image_102 rfl (lv_at hl 0 rfl) ?_
  refine lv_aload_n hx hb dX7_image_103 rfl (lv_at hl 2 rfl) ?_
  refine k_get (D := (dC, dI)) (ci := 7) (v := .int 8) (C := RX7) (T := TX7) (N := 92) hx hb hts hinX7 hown hK hP 4 rfl rfl 91 (by decide) w_0 rfl rfl dX7_image_104 ?_
  refine lv_icmp_ge (tgt := 131) hx hb dX7_image_107 (by decide) (fun q9 => absurd q9 (by decide +kernel)) (fun _ => ?_)
  refine lv_iconst (v := 5) hx hb dX7_image_110 (by decide +kernel) ?_
  refine lv_iload_n hx hb dX7_image_111 rfl (lv_at hl 1 rfl) ?_
  refine lv_imul hx hb dX7_image_112 ?_
  refine k_int (v := 840) (by decide +kernel) ?_
  refine lv_aload_n hx hb dX7_image_113 rfl (lv_at hl 2 rfl) ?_
  refine k_get (D := (dC, dI)) (ci := 7) (v := .ref (p1 90)) (C := RX7) (T := TX7) (N := 92) hx hb hts hinX7 hown hK hP 4 rfl rfl 90 (by decide) w_5 rfl rfl dX7_image_114 ?_
  refine lv_iload_n hx hb dX7_image_117 rfl (lv_at hl 0 rfl) ?_
  refine k_iald (v := 0) hx hb hK hP 5 0 5 rfl rfl rfl (Nat.le_of_ble_eq_true rfl) (Nat.le_of_ble_eq_true rfl) rfl dX7_image_118 ?_
  refine lv_iadd hx hb dX7_image_119 ?_
  refine k_int (v := 840) (by decide +kernel) ?_
  refine lv_sipush (v := 251) hx hb dX7_image_120 (by decide +kernel) ?_
  refine lv_irem hx hb dX7_image_123 (by decide +kernel) ?_
  refine k_int (v := 87) (by decide +kernel) ?_
  refine lv_istore_n (lv' := [(1, .int 87), (2, .int 5), (0, .ref p0)]) hx hb dX7_image_124 rfl hl (by decide) rfl (fun ls hl => ?_)
  refine lv_iinc (v := 6) (lv' := [(2, .int 6), (1, .int 87), (0, .ref p0)]) hx hb dX7_image_125 hl (k := 1) rfl (by decide +kernel) (by decide) rfl (fun ls hl => ?_)
  refine lv_goto (tgt := 102) hx hb dX7_image_128 (by decide) ?_
  refine lv_iload_n hx hb dX7_image_102 rfl (lv_at hl 0 rfl) ?_
  refine lv_aload_n hx hb dX7_image_103 rfl (lv_at hl 2 rfl) ?_
  refine k_get (D := (dC, dI)) (ci := 7) (v := .int 8) (C := RX7) (T := TX7) (N := 92) hx hb hts hinX7 hown hK hP 4 rfl rfl 91 (by decide) w_0 rfl rfl dX7_image_104 ?_
  refine lv_icmp_ge (tgt := 131) hx hb dX7_image_107 (by decide) (fun q9 => absurd q9 (by decide +kernel)) (fun _ => ?_)
  refine lv_iconst (v := 5) hx hb dX7_image_110 (by decide +kernel) ?_
  refine lv_iload_n hx hb dX7_image_111 rfl (lv_at hl 1 rfl) ?_
  refine lv_imul hx hb dX7_image_112 ?_
  refine k_int (v := 435) (by decide +kernel) ?_
  refine lv_aload_n hx hb dX7_image_113 rfl (lv_at hl 2 rfl) ?_
  refine k_get (D := (dC, dI)) (ci := 7) (v := .ref (p1 90)) (C := RX7) (T := TX7) (N := 92) hx hb hts hinX7 hown hK hP 4 rfl rfl 90 (by decide) w_5 rfl rfl dX7_image_114 ?_
  refine lv_iload_n hx hb dX7_image_117 rfl (lv_at hl 0 rfl) ?_
  refine k_iald (v := 0) hx hb hK hP 5 0 6 rfl rfl rfl (Nat.le_of_ble_eq_true rfl) (Nat.le_of_ble_eq_true rfl) rfl dX7_image_118 ?_
  refine lv_iadd hx hb dX7_image_119 ?_
  refine k_int (v := 435) (by decide +kernel) ?_
  refine lv_sipush (v := 251) hx hb dX7_image_120 (by decide +kernel) ?_
  refine lv_irem hx hb dX7_image_123 (by decide +kernel) ?_
  refine k_int (v := 184) (by decide +kernel) ?_
  refine lv_istore_n (lv' := [(1, .int 184), (2, .int 6), (0, .ref p0)]) hx hb dX7_image_124 rfl hl (by decide) rfl (fun ls hl => ?_)
  refine lv_iinc (v := 7) (lv' := [(2, .int 7), (1, .int 184), (0, .ref p0)]) hx hb dX7_image_125 hl (k := 1) rfl (by decide +kernel) (by decide) rfl (fun ls hl => ?_)
  refine lv_goto (tgt := 102) hx hb dX7_image_128 (by decide) ?_
  refine lv_iload_n hx hb dX7_image_102 rfl (lv_at hl 0 rfl) ?_
  refine lv_aload_n hx hb dX7_image_103 rfl (lv_at hl 2 rfl) ?_
  refine k_get (D := (dC, dI)) (ci := 7) (v := .int 8) (C := RX7) (T := TX7) (N := 92) hx hb hts hinX7 hown hK hP 4 rfl rfl 91 (by decide) w_0 rfl rfl dX7_image_104 ?_
  refine lv_icmp_ge (tgt := 131) hx hb dX7_image_107 (by decide) (fun q9 => absurd q9 (by decide +kernel)) (fun _ => ?_)
  refine lv_iconst (v := 5) hx hb dX7_image_110 (by decide +kernel) ?_
  refine lv_iload_n hx hb dX7_image_111 rfl (lv_at hl 1 rfl) ?_
  refine lv_imul hx hb dX7_image_112 ?_
  refine k_int (v := 920) (by decide +kernel) ?_
  refine lv_aload_n hx hb dX7_image_113 rfl (lv_at hl 2 rfl) ?_
  refine k_get (D := (dC, dI)) (ci := 7) (v := .ref (p1 90)) (C := RX7) (T := TX7) (N := 92) hx hb hts hinX7 hown hK hP 4 rfl rfl 90 (by decide) w_5 rfl rfl dX7_image_114 ?_
  refine lv_iload_n hx hb dX7_image_117 rfl (lv_at hl 0 rfl) ?_
  refine k_iald (v := 0) hx hb hK hP 5 0 7 rfl rfl rfl (Nat.le_of_ble_eq_true rfl) (Nat.le_of_ble_eq_true rfl) rfl dX7_image_118 ?_
  refine lv_iadd hx hb dX7_image_119 ?_
  refine k_int (v := 920) (by decide +kernel) ?_
  refine lv_sipush (v := 251) hx hb dX7_image_120 (by decide +kernel) ?_
  refine lv_irem hx hb dX7_image_123 (by decide +kernel) ?_
  refine k_int (v := 167) (by decide +kernel) ?_
  refine lv_istore_n (lv' := [(1, .int 167), (2, .int 7), (0, .ref p0)]) hx hb dX7_image_124 rfl hl (by decide) rfl (fun ls hl => ?_)
  refine lv_iinc (v := 8) (lv' := [(2, .int 8), (1, .int 167), (0, .ref p0)]) hx hb dX7_image_125 hl (k := 1) rfl (by decide +kernel) (by decide) rfl (fun ls hl => ?_)
  refine lv_goto (tgt := 102) hx hb dX7_image_128 (by decide) ?_
  refine lv_iload_n hx hb dX7_image_102 rfl (lv_at hl 0 rfl) ?_
  refine lv_aload_n hx hb dX7_image_103 rfl (lv_at hl 2 rfl) ?_
  refine k_get (D := (dC, dI)) (ci := 7) (v := .int 8) (C := RX7) (T := TX7) (N := 92) hx hb hts hinX7 hown hK hP 4 rfl rfl 91 (by decide) w_0 rfl rfl dX7_image_104 ?_
  refine lv_icmp_ge (tgt := 131) hx hb dX7_image_107 (by decide) (fun _ => ?_) (fun q9 => absurd q9 (by decide +kernel))
  refine lv_aload_n hx hb dX7_image_131 rfl (lv_at hl 2 rfl) ?_
  refine lv_iload_n hx hb dX7_image_132 rfl (lv_at hl 1 rfl) ?_
  refine k_cv (wc := [(p0, .inr (7, oM p1 (upd i7 91 8) j7)), ((p1 90), .inl (cI, 12, .inl (upd (upd (upd (upd (upd (upd (upd (upd (fun _ => 0) 0 0) 1 0) 2 0) 3 0) 4 0) 5 0) 6 0) 7 0)))]) (wr := [((p1 52), .inl (cI, 22, .inl (fun _ => 0))), ((p1 51), .inl (cI, 22, .inl (fun _ => 0))), ((p1 50), .inl (cI, 22, .inl (fun _ => 0))), ((p1 49), .inl (cI, 22, .inl (fun _ => 0)))]) (fun hPc hDc => va_runV (As := [.int 167]) (rest := []) ⟨hx, hb, hml, hown, hts⟩ (c_X7_writes_v8 l dC dI cI cJ cZ cM p0 p1 H.size) (cwV 1 hts gX7_image_X7_writes rfl rfl rfl (by decide +kernel) ⟨(Nat.le_of_ble_eq_true rfl), (Nat.le_of_ble_eq_true rfl)⟩) (k_pV hPc hDc hK hN hP (q0 := 4) (ci := 7) rfl rfl) rfl rfl hl.1 rfl (lv_room (Nat.le_of_ble_eq_true rfl)) dX7_image_133 ⟨(Nat.le_of_ble_eq_true rfl), (Nat.le_of_ble_eq_true rfl)⟩) hP hD hS hA [4, 5] [0, 1, 2, 3] rfl rfl rfl rfl (by decide) (fun _ => rfl) 0 0 rfl rfl (fun u_18 H locs hw hP hD hS => ?_)
  have hP : va_P (dC, dI) vwCl [((p1 52), .inl (cI, 22, .inl (fun _ => 0))), ((p1 51), .inl (cI, 22, .inl (fun _ => 0))), ((p1 50), .inl (cI, 22, .inl (fun _ => 0))), ((p1 49), .inl (cI, 22, .inl (fun _ => 0))), (p0, .inr (7, oM p1 (upd i7 91 9) j7)), ((p1 90), .inl (cI, 12, .inl (upd (upd (upd (upd (upd (upd (upd (upd (upd (fun _ => 0) 0 0) 1 0) 2 0) 3 0) 4 0) 5 0) 6 0) 7 0) 8 167)))] H := hP
  have hD : va_D A [((p1 52), .inl (cI, 22, .inl (fun _ => 0))), ((p1 51), .inl (cI, 22, .inl (fun _ => 0))), ((p1 50), .inl (cI, 22, .inl (fun _ => 0))), ((p1 49), .inl (cI, 22, .inl (fun _ => 0))), (p0, .inr (7, oM p1 (upd i7 91 9) j7)), ((p1 90), .inl (cI, 12, .inl (upd (upd (upd (upd (upd (upd (upd (upd (upd (fun _ => 0) 0 0) 1 0) 2 0) 3 0) 4 0) 5 0) 6 0) 7 0) 8 167)))] := hD
  refine lv_aload_n hx hb dX7_image_136 rfl (lv_at hl 2 rfl) ?_
  refine k_get (D := (dC, dI)) (ci := 7) (v := .int 9) (C := RX7) (T := TX7) (N := 92) hx hb hts hinX7 hown hK hP 4 rfl rfl 91 (by decide) w_0 rfl rfl dX7_image_137 ?_
  exact k_ri B hP hD hS dX7_image_140 () [4, 0, 5, 1, 2, 3] rfl rfl rfl (Nat.le_of_ble_eq_true rfl) (Nat.le_of_ble_eq_true rfl) rfl
set_option maxHeartbeats 4000000 in
set_option maxRecDepth 100000 in
theorem c_X7_octet_v0 (l : Launch) (dC : Nat → ClassId) (dI : Nat → Nat → Nat) (cI cJ cZ cM : ClassId) (p0 : Nat) (p1 : Int32) (p2 : Nat → Nat)   : k_Mi l yX7_octet wsX7_octet ({ frames := 2, cells := 0, slots := 0, locals := 62 }) (dC, dI) vwCl (tyy cI cJ cZ cM) [(p0, .inr (7, oM p2 i7 j7))] [.ref p0, .int p1] 0 0 (fun (u9 : Unit) => [(p0, .inr (7, oM p2 i7 j7))]) (fun (r9 : Int32) (u9 : Unit) => r9 = (-1)) := by
  refine fun sz => k_enter (cc := cX7_octet) (maxL := 2) (ret := some (.int)) (Qc := fun A => va_Qi (fun (r9 : Int32) (u9 : Unit) => r9 = (-1)) (fun u => k_B (dC, dI) vwCl (tyy cI cJ cZ cM) A ((fun (u9 : Unit) => [(p0, .inr (7, oM p2 i7 j7))]) u)) A) sz (by decide +kernel) rfl (Nat.le_of_ble_eq_true rfl) (fun p e s m args below meth c A ls H B hP hD hS hl => ?_)
  obtain ⟨hx, hb, hml, hown, hts, hr, hlk, hnm, hK, hA, hN⟩ := id B
  have hown : s.vm.findClass RX7 = some m.cls := hown
  have hl : lv_has ls 2 [(0, .ref p0), (1, .int p1)] := hl
  have w_0 : (Cond.fieldLink RX7 288 "WishSeaModel" "outs" "I").before args s = true := hts _ (List.mem_of_getElem? (i := 1) rfl)
  have hinX7 : ∀ w ∈ u_ws RX7 TX7 92, w ∈ wsX7_octet := fun _ h => List.mem_cons_of_mem _ (List.mem_append_right _ h)
  refine lv_iload_n hx hb dX7_octet_0 rfl (lv_at hl 1 rfl) ?_
  refine lv_iconst (v := 0) hx hb dX7_octet_1 (by decide +kernel) ?_
  refine lv_aload_n hx hb dX7_octet_2 rfl (lv_at hl 0 rfl) ?_
  refine k_get (D := (dC, dI)) (ci := 7) (v := .int 0) (C := RX7) (T := TX7) (N := 92) hx hb hts hinX7 hown hK hP 0 rfl rfl 91 (by decide) w_0 rfl rfl dX7_octet_3 ?_
  refine lv_iconst (v := 1) hx hb dX7_octet_6 (by decide +kernel) ?_
  refine lv_isub hx hb dX7_octet_7 ?_
  refine k_int (v := (-1)) (by decide +kernel) ?_
  refine k_ci (wc := []) (wr := [(p0, .inr (7, oM p2 i7 j7))]) (fun hPc hDc => va_runS (As := [.int p1, .int 0, .int (-1)]) (rest := []) ⟨hx, hb, hml, hown, hts⟩ (c_X7_is_v2 l dC dI cI cJ cZ cM p1 H.size) (va_cwS 3 hts gX7_octet_X7_is rfl rfl rfl (by decide +kernel) ⟨(Nat.le_of_ble_eq_true rfl), (Nat.le_of_ble_eq_true rfl)⟩) (k_pS hPc hDc hK hN) rfl rfl hl.1 rfl (lv_room (Nat.le_of_ble_eq_true rfl)) dX7_octet_8 ⟨(Nat.le_of_ble_eq_true rfl), (Nat.le_of_ble_eq_true rfl)⟩) hP hD hS hA [] [0] rfl rfl rfl rfl (by decide) (fun _ => rfl) 0 0 rfl rfl (fun r_1 u_2 H locs hw hP hD hS => ?_)
  obtain rfl : r_1 = 0 := hw
  have hP : va_P (dC, dI) vwCl [(p0, .inr (7, oM p2 i7 j7))] H := hP
  have hD : va_D A [(p0, .inr (7, oM p2 i7 j7))] := hD
  refine lv_if_eq (tgt := 23) hx hb dX7_octet_11 (by decide) (fun _ => ?_) (fun q9 => absurd q9 (by decide +kernel))
  refine lv_iconst (v := (-1)) hx hb dX7_octet_23 (by decide +kernel) ?_
  exact k_ri B hP hD hS dX7_octet_24 () [0] rfl rfl rfl (Nat.le_of_ble_eq_true rfl) (Nat.le_of_ble_eq_true rfl) rfl
set_option maxHeartbeats 4000000 in
set_option maxRecDepth 100000 in
theorem c_X7_canBe_v0 (l : Launch) (dC : Nat → ClassId) (dI : Nat → Nat → Nat) (cI cJ cZ cM : ClassId) (p0 : Nat)   : k_Mi l yX7_canBe wsX7_canBe ({ frames := 1, cells := 0, slots := 0, locals := 40 }) (dC, dI) vwCl (tyy cI cJ cZ cM) [] [.ref p0, .int 0] 0 0 (fun (u9 : Unit) => []) (fun (r9 : Int32) (u9 : Unit) => r9 = 0) := by
  refine fun sz => k_enter (cc := cX7_canBe) (maxL := 4) (ret := some (.boolean)) (Qc := fun A => va_Qi (fun (r9 : Int32) (u9 : Unit) => r9 = 0) (fun u => k_B (dC, dI) vwCl (tyy cI cJ cZ cM) A ((fun (u9 : Unit) => []) u)) A) sz (by decide +kernel) rfl (Nat.le_of_ble_eq_true rfl) (fun p e s m args below meth c A ls H B hP hD hS hl => ?_)
  obtain ⟨hx, hb, hml, hown, hts, hr, hlk, hnm, hK, hA, hN⟩ := id B
  have hown : s.vm.findClass RX7 = some m.cls := hown
  have hl : lv_has ls 4 [(0, .ref p0), (1, .int 0)] := hl
  refine lv_iload_n hx hb dX7_canBe_0 rfl (lv_at hl 1 rfl) ?_
  refine lv_bipush (v := 9) hx hb dX7_canBe_1 (by decide +kernel) ?_
  refine lv_icmp_ne (tgt := 65) hx hb dX7_canBe_3 (by decide) (fun _ => ?_) (fun q9 => absurd q9 (by decide +kernel))
  refine lv_iconst (v := 0) hx hb dX7_canBe_65 (by decide +kernel) ?_
  exact k_ri B hP hD hS dX7_canBe_66 () [] rfl rfl rfl (Nat.le_of_ble_eq_true rfl) (Nat.le_of_ble_eq_true rfl) rfl
set_option maxHeartbeats 4000000 in
set_option maxRecDepth 100000 in
theorem c_X7_on_v0 (l : Launch) (dC : Nat → ClassId) (dI : Nat → Nat → Nat) (cI cJ cZ cM : ClassId) (p0 : Nat) (p1 : Nat → Nat)   : k_Mi l yX7_on wsX7_on ({ frames := 2, cells := 0, slots := 0, locals := 63 }) (dC, dI) vwCl (tyy cI cJ cZ cM) [(p0, .inr (7, oM p1 i7 j7)), ((p1 48), .inl (cI, 6, .inl (fun _ => 0)))] [.ref p0] 0 0 (fun (u9 : Unit) => [(p0, .inr (7, oM p1 (upd i7 1 0) j7)), ((p1 48), .inl (cI, 6, .inl (upd (fun _ => 0) 5 1)))]) (fun (r9 : Int32) (u9 : Unit) => r9 = 0) := by
  refine fun sz => k_enter (cc := cX7_on) (maxL := 2) (ret := some (.boolean)) (Qc := fun A => va_Qi (fun (r9 : Int32) (u9 : Unit) => r9 = 0) (fun u => k_B (dC, dI) vwCl (tyy cI cJ cZ cM) A ((fun (u9 : Unit) => [(p0, .inr (7, oM p1 (upd i7 1 0) j7)), ((p1 48), .inl (cI, 6, .inl (upd (fun _ => 0) 5 1)))]) u)) A) sz (by decide +kernel) rfl (Nat.le_of_ble_eq_true rfl) (fun p e s m args below meth c A ls H B hP hD hS hl => ?_)
  obtain ⟨hx, hb, hml, hown, hts, hr, hlk, hnm, hK, hA, hN⟩ := id B
  have hown : s.vm.findClass RX7 = some m.cls := hown
  have hl : lv_has ls 2 [(0, .ref p0)] := hl
  have w_0 : (Cond.fieldLink RX7 13 "WishSeaModel" "taped" "I").before args s = true := hts _ (List.mem_of_getElem? (i := 1) rfl)
  have hinX7 : ∀ w ∈ u_ws RX7 TX7 92, w ∈ wsX7_on := fun _ h => List.mem_cons_of_mem _ (List.mem_append_right _ h)
  refine lv_aload_n hx hb dX7_on_0 rfl (lv_at hl 0 rfl) ?_
  refine k_get (D := (dC, dI)) (ci := 7) (v := .int 0) (C := RX7) (T := TX7) (N := 92) hx hb hts hinX7 hown hK hP 0 rfl rfl 1 (by decide) w_0 rfl rfl dX7_on_1 ?_
  refine lv_istore_n (lv' := [(1, .int 0), (0, .ref p0)]) hx hb dX7_on_4 rfl hl (by decide) rfl (fun ls hl => ?_)
  refine lv_aload_n hx hb dX7_on_5 rfl (lv_at hl 1 rfl) ?_
  refine lv_iconst (v := 0) hx hb dX7_on_6 (by decide +kernel) ?_
  refine k_put (D := (dC, dI)) (ci := 7) (v := .int 0) (C := RX7) (T := TX7) (N := 92) (ws' := [(p0, .inr (7, oM p1 (upd i7 1 0) j7)), ((p1 48), .inl (cI, 6, .inl (fun _ => 0)))]) hx hb hts hinX7 tyX7 tyX7_ok nmX7 hown hK hP hD hS 0 rfl rfl 1 (by decide) w_0 rfl rfl rfl rfl (Nat.le_of_ble_eq_true rfl) rfl dX7_on_7 (fun H locs hP hD hS => ?_)
  refine lv_aload_n hx hb dX7_on_10 rfl (lv_at hl 1 rfl) ?_
  refine lv_iload_n hx hb dX7_on_11 rfl (lv_at hl 0 rfl) ?_
  refine k_ci (wc := []) (wr := [(p0, .inr (7, oM p1 (upd i7 1 0) j7)), ((p1 48), .inl (cI, 6, .inl (fun _ => 0)))]) (fun hPc hDc => va_runV (As := [.int 0]) (rest := []) ⟨hx, hb, hml, hown, hts⟩ (c_X7_canBe_v0 l dC dI cI cJ cZ cM p0 H.size) (cwV 1 hts gX7_on_X7_canBe rfl rfl rfl (by decide +kernel) ⟨(Nat.le_of_ble_eq_true rfl), (Nat.le_of_ble_eq_true rfl)⟩) (k_pV hPc hDc hK hN hP (q0 := 0) (ci := 7) rfl rfl) rfl rfl hl.1 rfl (lv_room (Nat.le_of_ble_eq_true rfl)) dX7_on_12 ⟨(Nat.le_of_ble_eq_true rfl), (Nat.le_of_ble_eq_true rfl)⟩) hP hD hS hA [] [0, 1] rfl rfl rfl rfl (by decide) (fun _ => rfl) 0 0 rfl rfl (fun r_1 u_2 H locs hw hP hD hS => ?_)
  obtain rfl : r_1 = 0 := hw
  have hP : va_P (dC, dI) vwCl [(p0, .inr (7, oM p1 (upd i7 1 0) j7)), ((p1 48), .inl (cI, 6, .inl (fun _ => 0)))] H := hP
  have hD : va_D A [(p0, .inr (7, oM p1 (upd i7 1 0) j7)), ((p1 48), .inl (cI, 6, .inl (fun _ => 0)))] := hD
  refine lv_if_ne (tgt := 32) hx hb dX7_on_15 (by decide) (fun q9 => absurd q9 (by decide +kernel)) (fun _ => ?_)
  refine lv_aload_n hx hb dX7_on_18 rfl (lv_at hl 1 rfl) ?_
  refine lv_iconst (v := 5) hx hb dX7_on_19 (by decide +kernel) ?_
  refine k_ci (wc := [(p0, .inr (7, oM p1 (upd i7 1 0) j7)), ((p1 48), .inl (cI, 6, .inl (fun _ => 0)))]) (wr := []) (fun hPc hDc => va_runV (As := [.int 5]) (rest := []) ⟨hx, hb, hml, hown, hts⟩ (c_X7_refuses_v4 l dC dI cI cJ cZ cM p0 p1 H.size) (cwV 1 hts gX7_on_X7_refuses rfl rfl rfl (by decide +kernel) ⟨(Nat.le_of_ble_eq_true rfl), (Nat.le_of_ble_eq_true rfl)⟩) (k_pV hPc hDc hK hN hP (q0 := 0) (ci := 7) rfl rfl) rfl rfl hl.1 rfl (lv_room (Nat.le_of_ble_eq_true rfl)) dX7_on_20 ⟨(Nat.le_of_ble_eq_true rfl), (Nat.le_of_ble_eq_true rfl)⟩) hP hD hS hA [0, 1] [] rfl rfl rfl rfl (by decide) (fun _ => rfl) 0 0 rfl rfl (fun r_3 u_4 H locs hw hP hD hS => ?_)
  obtain rfl : r_3 = (-1) := hw
  have hP : va_P (dC, dI) vwCl [(p0, .inr (7, oM p1 (upd i7 1 0) j7)), ((p1 48), .inl (cI, 6, .inl (upd (fun _ => 0) 5 1)))] H := hP
  have hD : va_D A [(p0, .inr (7, oM p1 (upd i7 1 0) j7)), ((p1 48), .inl (cI, 6, .inl (upd (fun _ => 0) 5 1)))] := hD
  refine lv_if_lt (tgt := 30) hx hb dX7_on_23 (by decide) (fun _ => ?_) (fun q9 => absurd q9 (by decide +kernel))
  refine lv_iconst (v := 0) hx hb dX7_on_30 (by decide +kernel) ?_
  exact k_ri B hP hD hS dX7_on_31 () [0, 1] rfl rfl rfl (Nat.le_of_ble_eq_true rfl) (Nat.le_of_ble_eq_true rfl) rfl
