set_option maxHeartbeats 4000000 in
set_option maxRecDepth 100000 in
theorem c_J6_bitCount_0f7a4_v0 (l : Launch) (dC : Nat → ClassId) (dI : Nat → Nat → Nat) (cI cJ cZ cM : ClassId)    : k_Mi l yJ6_bitCount_0f7a4 wsJ6_bitCount_0f7a4 ({ frames := 1, cells := 0, slots := 0, locals := 40 }) (dC, dI) vwCl (tyy cI cJ cZ cM) [] [.int 0] 0 0 (fun (u9 : Unit) => []) (fun (r9 : Int32) (u9 : Unit) => r9 = 0) := by
  refine fun sz => k_enter (cc := cJ6_bitCount_0f7a4) (maxL := 1) (ret := some (.int)) (Qc := fun A => va_Qi (fun (r9 : Int32) (u9 : Unit) => r9 = 0) (fun u => k_B (dC, dI) vwCl (tyy cI cJ cZ cM) A ((fun (u9 : Unit) => []) u)) A) sz (by decide +kernel) rfl (Nat.le_of_ble_eq_true rfl) (fun p e s m args below meth c A ls H locs B hP hD hS hl => ?_)
  obtain ⟨hx, hb, hml, hown, hts, hr, hlk, hnm, hK, hA, hN, hC⟩ := id B
  have hown : s.vm.findClass RJ6 = some m.cls := hown
  have hl : lv_has ls 1 [(0, .int 0)] := hl
  have w_0 : (Cond.constant RJ6 265 (1431655765)).before args s = true := hts _ (List.mem_of_getElem? (i := 1) rfl)
  have w_1 : (Cond.constant RJ6 266 (858993459)).before args s = true := hts _ (List.mem_of_getElem? (i := 2) rfl)
  have w_2 : (Cond.constant RJ6 267 (252645135)).before args s = true := hts _ (List.mem_of_getElem? (i := 3) rfl)
  refine lv_iload_n hx hb dJ6_bitCount_0f7a4_0 rfl (lv_at hl 0 rfl) ?_
  refine lv_iload_n hx hb dJ6_bitCount_0f7a4_1 rfl (lv_at hl 0 rfl) ?_
  refine lv_iconst (v := 1) hx hb dJ6_bitCount_0f7a4_2 (by decide +kernel) ?_
  refine lv_iushr (v := 0) hx hb dJ6_bitCount_0f7a4_3 (by decide +kernel) ?_
  refine lv_ldcw (v := 1431655765) hx hb hown w_0 dJ6_bitCount_0f7a4_4 ?_
  refine lv_iand hx hb dJ6_bitCount_0f7a4_7 ?_
  refine k_int (v := 0) (by decide +kernel) ?_
  refine lv_isub hx hb dJ6_bitCount_0f7a4_8 ?_
  refine k_int (v := 0) (by decide +kernel) ?_
  refine lv_istore_n (lv' := [(0, .int 0)]) hx hb dJ6_bitCount_0f7a4_9 rfl hl (by decide) rfl (fun ls hl => ?_)
  refine lv_iload_n hx hb dJ6_bitCount_0f7a4_10 rfl (lv_at hl 0 rfl) ?_
  refine lv_ldcw (v := 858993459) hx hb hown w_1 dJ6_bitCount_0f7a4_11 ?_
  refine lv_iand hx hb dJ6_bitCount_0f7a4_14 ?_
  refine k_int (v := 0) (by decide +kernel) ?_
  refine lv_iload_n hx hb dJ6_bitCount_0f7a4_15 rfl (lv_at hl 0 rfl) ?_
  refine lv_iconst (v := 2) hx hb dJ6_bitCount_0f7a4_16 (by decide +kernel) ?_
  refine lv_iushr (v := 0) hx hb dJ6_bitCount_0f7a4_17 (by decide +kernel) ?_
  refine lv_ldcw (v := 858993459) hx hb hown w_1 dJ6_bitCount_0f7a4_18 ?_
  refine lv_iand hx hb dJ6_bitCount_0f7a4_21 ?_
  refine k_int (v := 0) (by decide +kernel) ?_
  refine lv_iadd hx hb dJ6_bitCount_0f7a4_22 ?_
  refine k_int (v := 0) (by decide +kernel) ?_
  refine lv_istore_n (lv' := [(0, .int 0)]) hx hb dJ6_bitCount_0f7a4_23 rfl hl (by decide) rfl (fun ls hl => ?_)
  refine lv_iload_n hx hb dJ6_bitCount_0f7a4_24 rfl (lv_at hl 0 rfl) ?_
  refine lv_iload_n hx hb dJ6_bitCount_0f7a4_25 rfl (lv_at hl 0 rfl) ?_
  refine lv_iconst (v := 4) hx hb dJ6_bitCount_0f7a4_26 (by decide +kernel) ?_
  refine lv_iushr (v := 0) hx hb dJ6_bitCount_0f7a4_27 (by decide +kernel) ?_
  refine lv_iadd hx hb dJ6_bitCount_0f7a4_28 ?_
  refine k_int (v := 0) (by decide +kernel) ?_
  refine lv_ldcw (v := 252645135) hx hb hown w_2 dJ6_bitCount_0f7a4_29 ?_
  refine lv_iand hx hb dJ6_bitCount_0f7a4_32 ?_
  refine k_int (v := 0) (by decide +kernel) ?_
  refine lv_istore_n (lv' := [(0, .int 0)]) hx hb dJ6_bitCount_0f7a4_33 rfl hl (by decide) rfl (fun ls hl => ?_)
  refine lv_iload_n hx hb dJ6_bitCount_0f7a4_34 rfl (lv_at hl 0 rfl) ?_
  refine lv_iload_n hx hb dJ6_bitCount_0f7a4_35 rfl (lv_at hl 0 rfl) ?_
  refine lv_bipush (v := 8) hx hb dJ6_bitCount_0f7a4_36 (by decide +kernel) ?_
  refine lv_iushr (v := 0) hx hb dJ6_bitCount_0f7a4_38 (by decide +kernel) ?_
  refine lv_iadd hx hb dJ6_bitCount_0f7a4_39 ?_
  refine k_int (v := 0) (by decide +kernel) ?_
  refine lv_istore_n (lv' := [(0, .int 0)]) hx hb dJ6_bitCount_0f7a4_40 rfl hl (by decide) rfl (fun ls hl => ?_)
  refine lv_iload_n hx hb dJ6_bitCount_0f7a4_41 rfl (lv_at hl 0 rfl) ?_
  refine lv_iload_n hx hb dJ6_bitCount_0f7a4_42 rfl (lv_at hl 0 rfl) ?_
  refine lv_bipush (v := 16) hx hb dJ6_bitCount_0f7a4_43 (by decide +kernel) ?_
  refine lv_iushr (v := 0) hx hb dJ6_bitCount_0f7a4_45 (by decide +kernel) ?_
  refine lv_iadd hx hb dJ6_bitCount_0f7a4_46 ?_
  refine k_int (v := 0) (by decide +kernel) ?_
  refine lv_istore_n (lv' := [(0, .int 0)]) hx hb dJ6_bitCount_0f7a4_47 rfl hl (by decide) rfl (fun ls hl => ?_)
  refine lv_iload_n hx hb dJ6_bitCount_0f7a4_48 rfl (lv_at hl 0 rfl) ?_
  refine lv_bipush (v := 63) hx hb dJ6_bitCount_0f7a4_49 (by decide +kernel) ?_
  refine lv_iand hx hb dJ6_bitCount_0f7a4_51 ?_
  refine k_int (v := 0) (by decide +kernel) ?_
  exact k_ri B hP hD hS dJ6_bitCount_0f7a4_52 () [] rfl rfl rfl (Nat.le_of_ble_eq_true rfl) (Nat.le_of_ble_eq_true rfl) rfl
set_option maxHeartbeats 4000000 in
set_option maxRecDepth 100000 in
theorem c_X6_before_v0 (l : Launch) (dC : Nat → ClassId) (dI : Nat → Nat → Nat) (cI cJ cZ cM : ClassId) (p0 : Nat) (p1 : Int32) (p2 : Nat → Nat)   : k_Mi l yX6_before wsX6_before ({ frames := 2, cells := 0, slots := 0, locals := 60 }) (dC, dI) vwCl (tyy cI cJ cZ cM) [(p0, .inr (6, [.ref (p2 0), .int 0, .ref (p2 1), .ref (p2 14), .ref (p2 27), .ref (p2 28), .ref (p2 29), .ref (p2 30), .ref (p2 54), .null, .int 1, .int 1, .int 999, .ref (p2 61), .ref (p2 62), .ref (p2 63), .ref (p2 60)])), ((p2 28), .inr (0, [.int 0, .int 0, .int 0, .int 0])), ((p2 1), .inr (5, [.ref (p2 2), .ref (p2 3), .ref (p2 4), .ref (p2 5), .ref (p2 6), .ref (p2 7), .ref (p2 8), .ref (p2 9), .ref (p2 10), .ref (p2 11), .ref (p2 12), .ref (p2 13), .int 0, .int 0, .int 0, .int 0, .int 0, .int 100, .int 0, .int 0]))] [.ref p0, .int p1] 0 0 (fun (u9 : (Nat × (Nat → Nat))) => [(p0, .inr (6, [.ref (p2 0), .int 0, .ref (p2 1), .ref (p2 14), .ref (p2 27), .ref (p2 28), .ref (p2 29), .ref (p2 30), .ref (p2 54), .null, .int 1, .int 1, .int 999, .ref (p2 61), .ref (p2 62), .ref (p2 63), .ref (p2 60)])), ((p2 28), .inr (0, [.int 0, .int 0, .int 0, .int 0])), ((p2 1), .inr (5, [.ref (p2 2), .ref (p2 3), .ref (p2 4), .ref (p2 5), .ref (p2 6), .ref (p2 7), .ref (p2 8), .ref (p2 9), .ref (p2 10), .ref (p2 11), .ref (p2 12), .ref (p2 13), .int 0, .int 0, .int 0, .int 0, .int 0, .int 100, .int 0, .int 0]))]) (fun (r9 : Int32) (u9 : (Nat × (Nat → Nat))) => match u9.1 with | 0 => (p1.toInt = 0) ∧ r9 = 1 | 1 => (p1.toInt = 1) ∧ r9 = 0 | 2 => (p1.toInt = 2) ∧ r9 = 0 | 3 => (p1.toInt < 0 ∨ 2 < p1.toInt) ∧ r9 = (-1) | _ => False) := by
  refine fun sz => k_enter (cc := cX6_before) (maxL := 3) (ret := some (.int)) (Qc := fun A => va_Qi (fun (r9 : Int32) (u9 : (Nat × (Nat → Nat))) => match u9.1 with | 0 => (p1.toInt = 0) ∧ r9 = 1 | 1 => (p1.toInt = 1) ∧ r9 = 0 | 2 => (p1.toInt = 2) ∧ r9 = 0 | 3 => (p1.toInt < 0 ∨ 2 < p1.toInt) ∧ r9 = (-1) | _ => False) (fun u => k_B (dC, dI) vwCl (tyy cI cJ cZ cM) A ((fun (u9 : (Nat × (Nat → Nat))) => [(p0, .inr (6, [.ref (p2 0), .int 0, .ref (p2 1), .ref (p2 14), .ref (p2 27), .ref (p2 28), .ref (p2 29), .ref (p2 30), .ref (p2 54), .null, .int 1, .int 1, .int 999, .ref (p2 61), .ref (p2 62), .ref (p2 63), .ref (p2 60)])), ((p2 28), .inr (0, [.int 0, .int 0, .int 0, .int 0])), ((p2 1), .inr (5, [.ref (p2 2), .ref (p2 3), .ref (p2 4), .ref (p2 5), .ref (p2 6), .ref (p2 7), .ref (p2 8), .ref (p2 9), .ref (p2 10), .ref (p2 11), .ref (p2 12), .ref (p2 13), .int 0, .int 0, .int 0, .int 0, .int 0, .int 100, .int 0, .int 0]))]) u)) A) sz (by decide +kernel) rfl (Nat.le_of_ble_eq_true rfl) (fun p e s m args below meth c A ls H locs B hP hD hS hl => ?_)
  obtain ⟨hx, hb, hml, hown, hts, hr, hlk, hnm, hK, hA, hN, hC⟩ := id B
  have hown : s.vm.findClass RX6 = some m.cls := hown
  have hl : lv_has ls 3 [(0, .ref p0), (1, .int p1)] := hl
  have w_0 : (Cond.fieldLink RX6 35 "WishSea" "now" "LWishSea$Moment;").before args s = true := hts _ (List.mem_of_getElem? (i := 1) rfl)
  have w_1 : (Cond.fieldLink RX6 136 "WishSea$Moment" "things" "I").before args s = true := hts _ (List.mem_of_getElem? (i := 2) rfl)
  have w_2 : (Cond.fieldLink RX6 16 "WishSea" "live" "LWishSea$Shore;").before args s = true := hts _ (List.mem_of_getElem? (i := 3) rfl)
  have w_3 : (Cond.fieldLink RX6 192 "WishSea$Shore" "brief" "I").before args s = true := hts _ (List.mem_of_getElem? (i := 4) rfl)
  have hinX6 : ∀ w ∈ u_ws RX6 TX6 17, w ∈ wsX6_before := fun _ h => List.mem_cons_of_mem _ (List.mem_append_left _ (List.mem_append_left _ (List.mem_append_right _ h)))
  have hinX0 : ∀ w ∈ u_ws RX0 TX0 4, w ∈ wsX6_before := fun _ h => List.mem_cons_of_mem _ (List.mem_append_left _ (List.mem_append_right _ h))
  have hinX5 : ∀ w ∈ u_ws RX5 TX5 20, w ∈ wsX6_before := fun _ h => List.mem_cons_of_mem _ (List.mem_append_right _ h)
  refine lv_aload_n hx hb dX6_before_0 rfl (lv_at hl 0 rfl) ?_
  refine k_get (D := (dC, dI)) (ci := 6) (v := .ref (p2 28)) (C := RX6) (T := TX6) (N := 17) hx hb hts hinX6 hown hK hP 0 rfl rfl 5 (by decide) w_0 rfl rfl dX6_before_1 ?_
  refine k_get (D := (dC, dI)) (ci := 0) (v := .int 0) (C := RX0) (T := TX0) (N := 4) hx hb hts hinX0 hown hK hP 1 rfl rfl 0 (by decide) w_1 rfl rfl dX6_before_4 ?_
  refine lv_aload_n hx hb dX6_before_7 rfl (lv_at hl 0 rfl) ?_
  refine k_get (D := (dC, dI)) (ci := 6) (v := .ref (p2 1)) (C := RX6) (T := TX6) (N := 17) hx hb hts hinX6 hown hK hP 0 rfl rfl 2 (by decide) w_2 rfl rfl dX6_before_8 ?_
  refine k_get (D := (dC, dI)) (ci := 5) (v := .int 0) (C := RX5) (T := TX5) (N := 20) hx hb hts hinX5 hown hK hP 2 rfl rfl 15 (by decide) w_3 rfl rfl dX6_before_11 ?_
  refine lv_iand hx hb dX6_before_14 ?_
  refine k_int (v := 0) (by decide +kernel) ?_
  refine lv_if_ne (tgt := 22) hx hb dX6_before_15 (by decide) (fun q9 => absurd q9 (by decide +kernel)) (fun _ => ?_)
  refine lv_iconst (v := 1) hx hb dX6_before_18 (by decide +kernel) ?_
  refine lv_goto (tgt := 23) hx hb dX6_before_19 (by decide) ?_
  refine lv_istore_n (lv' := [(2, .int 1), (0, .ref p0), (1, .int p1)]) hx hb dX6_before_23 rfl hl (by decide) rfl (fun ls hl => ?_)
  refine lv_iload_n hx hb dX6_before_24 rfl (lv_at hl 2 rfl) ?_
  rcases k_sw3 p1 with c_1 | c_1 | c_1 | c_1
  · have c_1 : p1.toInt = 0 := c_1
    refine lv_tableIn (off := 27) (tgt := 52) hx hb dX6_before_25 (by rw [c_1]; decide) (by rw [c_1]; decide) (by rw [c_1]; decide +kernel) (by decide +kernel) ?_
    refine lv_iload_n hx hb dX6_before_52 rfl (lv_at hl 0 rfl) ?_
    refine lv_if_eq (tgt := 71) hx hb dX6_before_53 (by decide) (fun q9 => absurd q9 (by decide +kernel)) (fun _ => ?_)
    refine lv_iconst (v := 1) hx hb dX6_before_56 (by decide +kernel) ?_
    refine lv_aload_n hx hb dX6_before_57 rfl (lv_at hl 1 rfl) ?_
    refine k_get (D := (dC, dI)) (ci := 6) (v := .ref (p2 1)) (C := RX6) (T := TX6) (N := 17) hx hb hts hinX6 hown hK hP 0 rfl rfl 2 (by decide) w_2 rfl rfl dX6_before_58 ?_
    refine k_get (D := (dC, dI)) (ci := 5) (v := .int 0) (C := RX5) (T := TX5) (N := 20) hx hb hts hinX5 hown hK hP 2 rfl rfl 15 (by decide) w_3 rfl rfl dX6_before_61 ?_
    refine k_ci (wc := []) (wr := [(p0, .inr (6, [.ref (p2 0), .int 0, .ref (p2 1), .ref (p2 14), .ref (p2 27), .ref (p2 28), .ref (p2 29), .ref (p2 30), .ref (p2 54), .null, .int 1, .int 1, .int 999, .ref (p2 61), .ref (p2 62), .ref (p2 63), .ref (p2 60)])), ((p2 28), .inr (0, [.int 0, .int 0, .int 0, .int 0])), ((p2 1), .inr (5, [.ref (p2 2), .ref (p2 3), .ref (p2 4), .ref (p2 5), .ref (p2 6), .ref (p2 7), .ref (p2 8), .ref (p2 9), .ref (p2 10), .ref (p2 11), .ref (p2 12), .ref (p2 13), .int 0, .int 0, .int 0, .int 0, .int 0, .int 100, .int 0, .int 0]))]) (fun hPc hDc hFc => va_runS (As := [.int 0]) (rest := [.int 1]) ⟨hx, hb, hml, hown, hts⟩ (c_J6_bitCount_0f7a4_v0 l dC dI cI cJ cZ cM H.size) (va_cwS 1 hts gX6_before_J6_bitCount_0f7a4 rfl rfl rfl (by decide +kernel) ⟨(Nat.le_of_ble_eq_true rfl), (Nat.le_of_ble_eq_true rfl)⟩) (k_pS hPc hDc hK hN hC hS hFc) rfl rfl hl.1 rfl (lv_room (Nat.le_of_ble_eq_true rfl)) dX6_before_64 ⟨(Nat.le_of_ble_eq_true rfl), (Nat.le_of_ble_eq_true rfl)⟩) hP hD hS hA [] [0, 1, 2] rfl rfl rfl rfl (by decide) (fun _ => rfl) 0 0 rfl rfl (fun r_2 u_3 H locs hw hP hD hS => ?_)
    obtain rfl : r_2 = 0 := hw
    have hP : va_P (dC, dI) vwCl [(p0, .inr (6, [.ref (p2 0), .int 0, .ref (p2 1), .ref (p2 14), .ref (p2 27), .ref (p2 28), .ref (p2 29), .ref (p2 30), .ref (p2 54), .null, .int 1, .int 1, .int 999, .ref (p2 61), .ref (p2 62), .ref (p2 63), .ref (p2 60)])), ((p2 28), .inr (0, [.int 0, .int 0, .int 0, .int 0])), ((p2 1), .inr (5, [.ref (p2 2), .ref (p2 3), .ref (p2 4), .ref (p2 5), .ref (p2 6), .ref (p2 7), .ref (p2 8), .ref (p2 9), .ref (p2 10), .ref (p2 11), .ref (p2 12), .ref (p2 13), .int 0, .int 0, .int 0, .int 0, .int 0, .int 100, .int 0, .int 0]))] H := hP
    have hD : va_D A [(p0, .inr (6, [.ref (p2 0), .int 0, .ref (p2 1), .ref (p2 14), .ref (p2 27), .ref (p2 28), .ref (p2 29), .ref (p2 30), .ref (p2 54), .null, .int 1, .int 1, .int 999, .ref (p2 61), .ref (p2 62), .ref (p2 63), .ref (p2 60)])), ((p2 28), .inr (0, [.int 0, .int 0, .int 0, .int 0])), ((p2 1), .inr (5, [.ref (p2 2), .ref (p2 3), .ref (p2 4), .ref (p2 5), .ref (p2 6), .ref (p2 7), .ref (p2 8), .ref (p2 9), .ref (p2 10), .ref (p2 11), .ref (p2 12), .ref (p2 13), .int 0, .int 0, .int 0, .int 0, .int 0, .int 100, .int 0, .int 0]))] := hD
    refine lv_ishl hx hb dX6_before_67 ?_
    refine k_int (v := 1) (by decide +kernel) ?_
    refine lv_goto (tgt := 72) hx hb dX6_before_68 (by decide) ?_
    exact k_ri B hP hD hS dX6_before_72 (0, (fun _ => 0)) [0, 1, 2] rfl rfl rfl (Nat.le_of_ble_eq_true rfl) (Nat.le_of_ble_eq_true rfl) ⟨c_1, rfl⟩
  · have c_1 : p1.toInt = 1 := c_1
    refine lv_tableIn (off := 48) (tgt := 73) hx hb dX6_before_25 (by rw [c_1]; decide) (by rw [c_1]; decide) (by rw [c_1]; decide +kernel) (by decide +kernel) ?_
    refine lv_iload_n hx hb dX6_before_73 rfl (lv_at hl 0 rfl) ?_
    refine lv_if_eq (tgt := 87) hx hb dX6_before_74 (by decide) (fun q9 => absurd q9 (by decide +kernel)) (fun _ => ?_)
    refine lv_aload_n hx hb dX6_before_77 rfl (lv_at hl 1 rfl) ?_
    refine k_get (D := (dC, dI)) (ci := 6) (v := .ref (p2 28)) (C := RX6) (T := TX6) (N := 17) hx hb hts hinX6 hown hK hP 0 rfl rfl 5 (by decide) w_0 rfl rfl dX6_before_78 ?_
    refine k_get (D := (dC, dI)) (ci := 0) (v := .int 0) (C := RX0) (T := TX0) (N := 4) hx hb hts hinX0 hown hK hP 1 rfl rfl 0 (by decide) w_1 rfl rfl dX6_before_81 ?_
    refine lv_goto (tgt := 88) hx hb dX6_before_84 (by decide) ?_
    exact k_ri B hP hD hS dX6_before_88 (1, (fun _ => 0)) [0, 1, 2] rfl rfl rfl (Nat.le_of_ble_eq_true rfl) (Nat.le_of_ble_eq_true rfl) ⟨c_1, rfl⟩
  · have c_1 : p1.toInt = 2 := c_1
    refine lv_tableIn (off := 64) (tgt := 89) hx hb dX6_before_25 (by rw [c_1]; decide) (by rw [c_1]; decide) (by rw [c_1]; decide +kernel) (by decide +kernel) ?_
    refine lv_iload_n hx hb dX6_before_89 rfl (lv_at hl 0 rfl) ?_
    refine lv_if_eq (tgt := 111) hx hb dX6_before_90 (by decide) (fun q9 => absurd q9 (by decide +kernel)) (fun _ => ?_)
    refine lv_aload_n hx hb dX6_before_93 rfl (lv_at hl 1 rfl) ?_
    refine k_get (D := (dC, dI)) (ci := 6) (v := .ref (p2 28)) (C := RX6) (T := TX6) (N := 17) hx hb hts hinX6 hown hK hP 0 rfl rfl 5 (by decide) w_0 rfl rfl dX6_before_94 ?_
    refine k_get (D := (dC, dI)) (ci := 0) (v := .int 0) (C := RX0) (T := TX0) (N := 4) hx hb hts hinX0 hown hK hP 1 rfl rfl 0 (by decide) w_1 rfl rfl dX6_before_97 ?_
    refine lv_aload_n hx hb dX6_before_100 rfl (lv_at hl 1 rfl) ?_
    refine k_get (D := (dC, dI)) (ci := 6) (v := .ref (p2 1)) (C := RX6) (T := TX6) (N := 17) hx hb hts hinX6 hown hK hP 0 rfl rfl 2 (by decide) w_2 rfl rfl dX6_before_101 ?_
    refine k_get (D := (dC, dI)) (ci := 5) (v := .int 0) (C := RX5) (T := TX5) (N := 20) hx hb hts hinX5 hown hK hP 2 rfl rfl 15 (by decide) w_3 rfl rfl dX6_before_104 ?_
    refine lv_ior hx hb dX6_before_107 ?_
    refine k_int (v := 0) (by decide +kernel) ?_
    refine lv_goto (tgt := 112) hx hb dX6_before_108 (by decide) ?_
    exact k_ri B hP hD hS dX6_before_112 (2, (fun _ => 0)) [0, 1, 2] rfl rfl rfl (Nat.le_of_ble_eq_true rfl) (Nat.le_of_ble_eq_true rfl) ⟨c_1, rfl⟩
  · refine lv_tableOut (tgt := 113) hx hb dX6_before_25 c_1 (by decide +kernel) ?_
    refine lv_iconst (v := (-1)) hx hb dX6_before_113 (by decide +kernel) ?_
    exact k_ri B hP hD hS dX6_before_114 (3, (fun _ => 0)) [0, 1, 2] rfl rfl rfl (Nat.le_of_ble_eq_true rfl) (Nat.le_of_ble_eq_true rfl) ⟨c_1, rfl⟩
set_option maxHeartbeats 4000000 in
set_option maxRecDepth 100000 in
theorem c_X7_bits_v0 (l : Launch) (dC : Nat → ClassId) (dI : Nat → Nat → Nat) (cI cJ cZ cM : ClassId)    : k_Mi l yX7_bits wsX7_bits ({ frames := 1, cells := 0, slots := 0, locals := 40 }) (dC, dI) vwCl (tyy cI cJ cZ cM) [] [.int 0] 0 0 (fun (u9 : Unit) => []) (fun (r9 : Int32) (u9 : Unit) => r9 = 0) := by
  refine fun sz => k_enter (cc := cX7_bits) (maxL := 3) (ret := some (.int)) (Qc := fun A => va_Qi (fun (r9 : Int32) (u9 : Unit) => r9 = 0) (fun u => k_B (dC, dI) vwCl (tyy cI cJ cZ cM) A ((fun (u9 : Unit) => []) u)) A) sz (by decide +kernel) rfl (Nat.le_of_ble_eq_true rfl) (fun p e s m args below meth c A ls H locs B hP hD hS hl => ?_)
  obtain ⟨hx, hb, hml, hown, hts, hr, hlk, hnm, hK, hA, hN, hC⟩ := id B
  have hown : s.vm.findClass RX7 = some m.cls := hown
  have hl : lv_has ls 3 [(0, .int 0)] := hl
  refine lv_iconst (v := 0) hx hb dX7_bits_0 (by decide +kernel) ?_
  refine lv_istore_n (lv' := [(1, .int 0), (0, .int 0)]) hx hb dX7_bits_1 rfl hl (by decide) rfl (fun ls hl => ?_)
  refine lv_iload_n hx hb dX7_bits_2 rfl (lv_at hl 1 rfl) ?_
  refine lv_istore_n (lv' := [(2, .int 0), (1, .int 0), (0, .int 0)]) hx hb dX7_bits_3 rfl hl (by decide) rfl (fun ls hl => ?_)
  refine lv_iload_n hx hb dX7_bits_4 rfl (lv_at hl 0 rfl) ?_
  refine lv_if_eq (tgt := 20) hx hb dX7_bits_5 (by decide) (fun _ => ?_) (fun q9 => absurd q9 (by decide +kernel))
  refine lv_iload_n hx hb dX7_bits_20 rfl (lv_at hl 1 rfl) ?_
  exact k_ri B hP hD hS dX7_bits_21 () [] rfl rfl rfl (Nat.le_of_ble_eq_true rfl) (Nat.le_of_ble_eq_true rfl) rfl
set_option maxHeartbeats 4000000 in
set_option maxRecDepth 100000 in
theorem c_X7_before_v0 (l : Launch) (dC : Nat → ClassId) (dI : Nat → Nat → Nat) (cI cJ cZ cM : ClassId) (p0 : Nat) (p1 : Int32) (p2 : Nat → Nat) (b_0 : 0 ≤ p1.toInt) (t_0 : p1.toInt ≤ 0)  : k_Mi l yX7_before wsX7_before ({ frames := 2, cells := 0, slots := 0, locals := 62 }) (dC, dI) vwCl (tyy cI cJ cZ cM) [(p0, .inr (7, oM p2 i7 j7)), ((p2 14), .inl (cI, 2, .inl (fun _ => 0))), ((p2 49), .inl (cI, 22, .inl (fun _ => 0)))] [.ref p0, .int p1] 0 0 (fun (u9 : Unit) => [(p0, .inr (7, oM p2 i7 j7)), ((p2 14), .inl (cI, 2, .inl (fun _ => 0))), ((p2 49), .inl (cI, 22, .inl (fun _ => 0)))]) (fun (r9 : Int32) (u9 : Unit) => r9 = 1) := by
  refine fun sz => k_enter (cc := cX7_before) (maxL := 3) (ret := some (.int)) (Qc := fun A => va_Qi (fun (r9 : Int32) (u9 : Unit) => r9 = 1) (fun u => k_B (dC, dI) vwCl (tyy cI cJ cZ cM) A ((fun (u9 : Unit) => [(p0, .inr (7, oM p2 i7 j7)), ((p2 14), .inl (cI, 2, .inl (fun _ => 0))), ((p2 49), .inl (cI, 22, .inl (fun _ => 0)))]) u)) A) sz (by decide +kernel) rfl (Nat.le_of_ble_eq_true rfl) (fun p e s m args below meth c A ls H locs B hP hD hS hl => ?_)
  obtain ⟨hx, hb, hml, hown, hts, hr, hlk, hnm, hK, hA, hN, hC⟩ := id B
  have hown : s.vm.findClass RX7 = some m.cls := hown
  have hl : lv_has ls 3 [(0, .ref p0), (1, .int p1)] := hl
  have w_0 : (Cond.fieldLink RX7 162 "WishSeaModel" "hadOf" "[I").before args s = true := hts _ (List.mem_of_getElem? (i := 1) rfl)
  have hinX7 : ∀ w ∈ u_ws RX7 TX7 92, w ∈ wsX7_before := fun _ h => List.mem_cons_of_mem _ (List.mem_append_right _ h)
  rcases (show p1.toInt = 0 by omega) with c_1
  obtain rfl : p1 = 0 := k_eqL (by decide +kernel) c_1
  refine lv_iload_n hx hb dX7_before_0 rfl (lv_at hl 1 rfl) ?_
  refine lv_iconst (v := 0) hx hb dX7_before_1 (by decide +kernel) ?_
  refine lv_iconst (v := 2) hx hb dX7_before_2 (by decide +kernel) ?_
  refine k_ci (wc := []) (wr := [(p0, .inr (7, oM p2 i7 j7)), ((p2 14), .inl (cI, 2, .inl (fun _ => 0))), ((p2 49), .inl (cI, 22, .inl (fun _ => 0)))]) (fun hPc hDc hFc => va_runS (As := [.int 0, .int 0, .int 2]) (rest := []) ⟨hx, hb, hml, hown, hts⟩ (c_X7_is_v26 l dC dI cI cJ cZ cM H.size) (va_cwS 3 hts gX7_before_X7_is rfl rfl rfl (by decide +kernel) ⟨(Nat.le_of_ble_eq_true rfl), (Nat.le_of_ble_eq_true rfl)⟩) (k_pS hPc hDc hK hN hC hS hFc) rfl rfl hl.1 rfl (lv_room (Nat.le_of_ble_eq_true rfl)) dX7_before_3 ⟨(Nat.le_of_ble_eq_true rfl), (Nat.le_of_ble_eq_true rfl)⟩) hP hD hS hA [] [0, 1, 2] rfl rfl rfl rfl (by decide) (fun _ => rfl) 0 0 rfl rfl (fun r_2 u_3 H locs hw hP hD hS => ?_)
  obtain rfl : r_2 = 1 := hw
  have hP : va_P (dC, dI) vwCl [(p0, .inr (7, oM p2 i7 j7)), ((p2 14), .inl (cI, 2, .inl (fun _ => 0))), ((p2 49), .inl (cI, 22, .inl (fun _ => 0)))] H := hP
  have hD : va_D A [(p0, .inr (7, oM p2 i7 j7)), ((p2 14), .inl (cI, 2, .inl (fun _ => 0))), ((p2 49), .inl (cI, 22, .inl (fun _ => 0)))] := hD
  refine lv_if_ne (tgt := 11) hx hb dX7_before_6 (by decide) (fun _ => ?_) (fun q9 => absurd q9 (by decide +kernel))
  refine lv_aload_n hx hb dX7_before_11 rfl (lv_at hl 0 rfl) ?_
  refine k_ci (wc := [(p0, .inr (7, oM p2 i7 j7)), ((p2 14), .inl (cI, 2, .inl (fun _ => 0)))]) (wr := [((p2 49), .inl (cI, 22, .inl (fun _ => 0)))]) (fun hPc hDc hFc => va_runV (As := []) (rest := []) ⟨hx, hb, hml, hown, hts⟩ (c_X7_briefOnes_v2 l dC dI cI cJ cZ cM p0 p2 H.size) (cwV 0 hts gX7_before_X7_briefOnes rfl rfl rfl (by decide +kernel) ⟨(Nat.le_of_ble_eq_true rfl), (Nat.le_of_ble_eq_true rfl)⟩) (k_pV hPc hDc hK hN hC hS hFc hP (q0 := 0) (ci := 7) rfl rfl) rfl rfl hl.1 rfl (lv_room (Nat.le_of_ble_eq_true rfl)) dX7_before_12 ⟨(Nat.le_of_ble_eq_true rfl), (Nat.le_of_ble_eq_true rfl)⟩) hP hD hS hA [0, 1] [2] rfl rfl rfl rfl (by decide) (fun _ => rfl) 0 0 rfl rfl (fun r_4 u_5 H locs hw hP hD hS => ?_)
  obtain rfl : r_4 = 0 := hw
  have hP : va_P (dC, dI) vwCl [((p2 49), .inl (cI, 22, .inl (fun _ => 0))), (p0, .inr (7, oM p2 i7 j7)), ((p2 14), .inl (cI, 2, .inl (fun _ => 0)))] H := hP
  have hD : va_D A [((p2 49), .inl (cI, 22, .inl (fun _ => 0))), (p0, .inr (7, oM p2 i7 j7)), ((p2 14), .inl (cI, 2, .inl (fun _ => 0)))] := hD
  refine lv_istore_n (lv' := [(2, .int 0), (0, .ref p0), (1, .int 0)]) hx hb dX7_before_15 rfl hl (by decide) rfl (fun ls hl => ?_)
  refine lv_aload_n hx hb dX7_before_16 rfl (lv_at hl 1 rfl) ?_
  refine k_get (D := (dC, dI)) (ci := 7) (v := .ref (p2 49)) (C := RX7) (T := TX7) (N := 92) hx hb hts hinX7 hown hK hP 1 rfl rfl 49 (by decide) w_0 rfl rfl dX7_before_17 ?_
  refine lv_iconst (v := 0) hx hb dX7_before_20 (by decide +kernel) ?_
  refine k_iald (v := 0) hx hb hK hP 0 0 0 rfl rfl rfl (Nat.le_of_ble_eq_true rfl) (Nat.le_of_ble_eq_true rfl) rfl dX7_before_21 ?_
  refine lv_iload_n hx hb dX7_before_22 rfl (lv_at hl 0 rfl) ?_
  refine lv_iand hx hb dX7_before_23 ?_
  refine k_int (v := 0) (by decide +kernel) ?_
  refine lv_if_eq (tgt := 37) hx hb dX7_before_24 (by decide) (fun _ => ?_) (fun q9 => absurd q9 (by decide +kernel))
  refine lv_iload_n hx hb dX7_before_37 rfl (lv_at hl 2 rfl) ?_
  refine lv_if_ne (tgt := 50) hx hb dX7_before_38 (by decide) (fun q9 => absurd q9 (by decide +kernel)) (fun _ => ?_)
  refine lv_iconst (v := 1) hx hb dX7_before_41 (by decide +kernel) ?_
  refine lv_iload_n hx hb dX7_before_42 rfl (lv_at hl 0 rfl) ?_
  refine k_ci (wc := []) (wr := [((p2 49), .inl (cI, 22, .inl (fun _ => 0))), (p0, .inr (7, oM p2 i7 j7)), ((p2 14), .inl (cI, 2, .inl (fun _ => 0)))]) (fun hPc hDc hFc => va_runS (As := [.int 0]) (rest := [.int 1]) ⟨hx, hb, hml, hown, hts⟩ (c_X7_bits_v0 l dC dI cI cJ cZ cM H.size) (va_cwS 1 hts gX7_before_X7_bits rfl rfl rfl (by decide +kernel) ⟨(Nat.le_of_ble_eq_true rfl), (Nat.le_of_ble_eq_true rfl)⟩) (k_pS hPc hDc hK hN hC hS hFc) rfl rfl hl.1 rfl (lv_room (Nat.le_of_ble_eq_true rfl)) dX7_before_43 ⟨(Nat.le_of_ble_eq_true rfl), (Nat.le_of_ble_eq_true rfl)⟩) hP hD hS hA [] [0, 1, 2] rfl rfl rfl rfl (by decide) (fun _ => rfl) 0 0 rfl rfl (fun r_6 u_7 H locs hw hP hD hS => ?_)
  obtain rfl : r_6 = 0 := hw
  have hP : va_P (dC, dI) vwCl [((p2 49), .inl (cI, 22, .inl (fun _ => 0))), (p0, .inr (7, oM p2 i7 j7)), ((p2 14), .inl (cI, 2, .inl (fun _ => 0)))] H := hP
  have hD : va_D A [((p2 49), .inl (cI, 22, .inl (fun _ => 0))), (p0, .inr (7, oM p2 i7 j7)), ((p2 14), .inl (cI, 2, .inl (fun _ => 0)))] := hD
  refine lv_ishl hx hb dX7_before_46 ?_
  refine k_int (v := 1) (by decide +kernel) ?_
  refine lv_goto (tgt := 72) hx hb dX7_before_47 (by decide) ?_
  exact k_ri B hP hD hS dX7_before_72 () [1, 2, 0] rfl rfl rfl (Nat.le_of_ble_eq_true rfl) (Nat.le_of_ble_eq_true rfl) rfl
set_option maxHeartbeats 4000000 in
set_option maxRecDepth 100000 in
theorem c_X7_before_v1 (l : Launch) (dC : Nat → ClassId) (dI : Nat → Nat → Nat) (cI cJ cZ cM : ClassId) (p0 : Nat) (p1 : Int32) (p2 : Nat → Nat) (b_0 : 1 ≤ p1.toInt) (t_0 : p1.toInt ≤ 1)  : k_Mi l yX7_before wsX7_before ({ frames := 2, cells := 0, slots := 0, locals := 62 }) (dC, dI) vwCl (tyy cI cJ cZ cM) [(p0, .inr (7, oM p2 i7 j7)), ((p2 14), .inl (cI, 2, .inl (fun _ => 0))), ((p2 49), .inl (cI, 22, .inl (fun _ => 0)))] [.ref p0, .int p1] 0 0 (fun (u9 : Unit) => [(p0, .inr (7, oM p2 i7 j7)), ((p2 14), .inl (cI, 2, .inl (fun _ => 0))), ((p2 49), .inl (cI, 22, .inl (fun _ => 0)))]) (fun (r9 : Int32) (u9 : Unit) => r9 = 0) := by
  refine fun sz => k_enter (cc := cX7_before) (maxL := 3) (ret := some (.int)) (Qc := fun A => va_Qi (fun (r9 : Int32) (u9 : Unit) => r9 = 0) (fun u => k_B (dC, dI) vwCl (tyy cI cJ cZ cM) A ((fun (u9 : Unit) => [(p0, .inr (7, oM p2 i7 j7)), ((p2 14), .inl (cI, 2, .inl (fun _ => 0))), ((p2 49), .inl (cI, 22, .inl (fun _ => 0)))]) u)) A) sz (by decide +kernel) rfl (Nat.le_of_ble_eq_true rfl) (fun p e s m args below meth c A ls H locs B hP hD hS hl => ?_)
  obtain ⟨hx, hb, hml, hown, hts, hr, hlk, hnm, hK, hA, hN, hC⟩ := id B
  have hown : s.vm.findClass RX7 = some m.cls := hown
  have hl : lv_has ls 3 [(0, .ref p0), (1, .int p1)] := hl
  have w_0 : (Cond.fieldLink RX7 162 "WishSeaModel" "hadOf" "[I").before args s = true := hts _ (List.mem_of_getElem? (i := 1) rfl)
  have hinX7 : ∀ w ∈ u_ws RX7 TX7 92, w ∈ wsX7_before := fun _ h => List.mem_cons_of_mem _ (List.mem_append_right _ h)
  rcases (show p1.toInt = 1 by omega) with c_1
  obtain rfl : p1 = 1 := k_eqL (by decide +kernel) c_1
  refine lv_iload_n hx hb dX7_before_0 rfl (lv_at hl 1 rfl) ?_
  refine lv_iconst (v := 0) hx hb dX7_before_1 (by decide +kernel) ?_
  refine lv_iconst (v := 2) hx hb dX7_before_2 (by decide +kernel) ?_
  refine k_ci (wc := []) (wr := [(p0, .inr (7, oM p2 i7 j7)), ((p2 14), .inl (cI, 2, .inl (fun _ => 0))), ((p2 49), .inl (cI, 22, .inl (fun _ => 0)))]) (fun hPc hDc hFc => va_runS (As := [.int 1, .int 0, .int 2]) (rest := []) ⟨hx, hb, hml, hown, hts⟩ (c_X7_is_v27 l dC dI cI cJ cZ cM H.size) (va_cwS 3 hts gX7_before_X7_is rfl rfl rfl (by decide +kernel) ⟨(Nat.le_of_ble_eq_true rfl), (Nat.le_of_ble_eq_true rfl)⟩) (k_pS hPc hDc hK hN hC hS hFc) rfl rfl hl.1 rfl (lv_room (Nat.le_of_ble_eq_true rfl)) dX7_before_3 ⟨(Nat.le_of_ble_eq_true rfl), (Nat.le_of_ble_eq_true rfl)⟩) hP hD hS hA [] [0, 1, 2] rfl rfl rfl rfl (by decide) (fun _ => rfl) 0 0 rfl rfl (fun r_2 u_3 H locs hw hP hD hS => ?_)
  obtain rfl : r_2 = 1 := hw
  have hP : va_P (dC, dI) vwCl [(p0, .inr (7, oM p2 i7 j7)), ((p2 14), .inl (cI, 2, .inl (fun _ => 0))), ((p2 49), .inl (cI, 22, .inl (fun _ => 0)))] H := hP
  have hD : va_D A [(p0, .inr (7, oM p2 i7 j7)), ((p2 14), .inl (cI, 2, .inl (fun _ => 0))), ((p2 49), .inl (cI, 22, .inl (fun _ => 0)))] := hD
  refine lv_if_ne (tgt := 11) hx hb dX7_before_6 (by decide) (fun _ => ?_) (fun q9 => absurd q9 (by decide +kernel))
  refine lv_aload_n hx hb dX7_before_11 rfl (lv_at hl 0 rfl) ?_
  refine k_ci (wc := [(p0, .inr (7, oM p2 i7 j7)), ((p2 14), .inl (cI, 2, .inl (fun _ => 0)))]) (wr := [((p2 49), .inl (cI, 22, .inl (fun _ => 0)))]) (fun hPc hDc hFc => va_runV (As := []) (rest := []) ⟨hx, hb, hml, hown, hts⟩ (c_X7_briefOnes_v2 l dC dI cI cJ cZ cM p0 p2 H.size) (cwV 0 hts gX7_before_X7_briefOnes rfl rfl rfl (by decide +kernel) ⟨(Nat.le_of_ble_eq_true rfl), (Nat.le_of_ble_eq_true rfl)⟩) (k_pV hPc hDc hK hN hC hS hFc hP (q0 := 0) (ci := 7) rfl rfl) rfl rfl hl.1 rfl (lv_room (Nat.le_of_ble_eq_true rfl)) dX7_before_12 ⟨(Nat.le_of_ble_eq_true rfl), (Nat.le_of_ble_eq_true rfl)⟩) hP hD hS hA [0, 1] [2] rfl rfl rfl rfl (by decide) (fun _ => rfl) 0 0 rfl rfl (fun r_4 u_5 H locs hw hP hD hS => ?_)
  obtain rfl : r_4 = 0 := hw
  have hP : va_P (dC, dI) vwCl [((p2 49), .inl (cI, 22, .inl (fun _ => 0))), (p0, .inr (7, oM p2 i7 j7)), ((p2 14), .inl (cI, 2, .inl (fun _ => 0)))] H := hP
  have hD : va_D A [((p2 49), .inl (cI, 22, .inl (fun _ => 0))), (p0, .inr (7, oM p2 i7 j7)), ((p2 14), .inl (cI, 2, .inl (fun _ => 0)))] := hD
  refine lv_istore_n (lv' := [(2, .int 0), (0, .ref p0), (1, .int 1)]) hx hb dX7_before_15 rfl hl (by decide) rfl (fun ls hl => ?_)
  refine lv_aload_n hx hb dX7_before_16 rfl (lv_at hl 1 rfl) ?_
  refine k_get (D := (dC, dI)) (ci := 7) (v := .ref (p2 49)) (C := RX7) (T := TX7) (N := 92) hx hb hts hinX7 hown hK hP 1 rfl rfl 49 (by decide) w_0 rfl rfl dX7_before_17 ?_
  refine lv_iconst (v := 0) hx hb dX7_before_20 (by decide +kernel) ?_
  refine k_iald (v := 0) hx hb hK hP 0 0 0 rfl rfl rfl (Nat.le_of_ble_eq_true rfl) (Nat.le_of_ble_eq_true rfl) rfl dX7_before_21 ?_
  refine lv_iload_n hx hb dX7_before_22 rfl (lv_at hl 0 rfl) ?_
  refine lv_iand hx hb dX7_before_23 ?_
  refine k_int (v := 0) (by decide +kernel) ?_
  refine lv_if_eq (tgt := 37) hx hb dX7_before_24 (by decide) (fun _ => ?_) (fun q9 => absurd q9 (by decide +kernel))
  refine lv_iload_n hx hb dX7_before_37 rfl (lv_at hl 2 rfl) ?_
  refine lv_if_ne (tgt := 50) hx hb dX7_before_38 (by decide) (fun _ => ?_) (fun q9 => absurd q9 (by decide +kernel))
  refine lv_iload_n hx hb dX7_before_50 rfl (lv_at hl 2 rfl) ?_
  refine lv_iconst (v := 1) hx hb dX7_before_51 (by decide +kernel) ?_
  refine lv_icmp_ne (tgt := 64) hx hb dX7_before_52 (by decide) (fun q9 => absurd q9 (by decide +kernel)) (fun _ => ?_)
  refine lv_aload_n hx hb dX7_before_55 rfl (lv_at hl 1 rfl) ?_
  refine k_get (D := (dC, dI)) (ci := 7) (v := .ref (p2 49)) (C := RX7) (T := TX7) (N := 92) hx hb hts hinX7 hown hK hP 1 rfl rfl 49 (by decide) w_0 rfl rfl dX7_before_56 ?_
  refine lv_iconst (v := 0) hx hb dX7_before_59 (by decide +kernel) ?_
  refine k_iald (v := 0) hx hb hK hP 0 0 0 rfl rfl rfl (Nat.le_of_ble_eq_true rfl) (Nat.le_of_ble_eq_true rfl) rfl dX7_before_60 ?_
  refine lv_goto (tgt := 72) hx hb dX7_before_61 (by decide) ?_
  exact k_ri B hP hD hS dX7_before_72 () [1, 2, 0] rfl rfl rfl (Nat.le_of_ble_eq_true rfl) (Nat.le_of_ble_eq_true rfl) rfl
set_option maxHeartbeats 4000000 in
set_option maxRecDepth 100000 in
theorem c_X7_before_v2 (l : Launch) (dC : Nat → ClassId) (dI : Nat → Nat → Nat) (cI cJ cZ cM : ClassId) (p0 : Nat) (p1 : Int32) (p2 : Nat → Nat) (b_0 : 2 ≤ p1.toInt) (t_0 : p1.toInt ≤ 2)  : k_Mi l yX7_before wsX7_before ({ frames := 2, cells := 0, slots := 0, locals := 62 }) (dC, dI) vwCl (tyy cI cJ cZ cM) [(p0, .inr (7, oM p2 i7 j7)), ((p2 14), .inl (cI, 2, .inl (fun _ => 0))), ((p2 49), .inl (cI, 22, .inl (fun _ => 0)))] [.ref p0, .int p1] 0 0 (fun (u9 : Unit) => [(p0, .inr (7, oM p2 i7 j7)), ((p2 14), .inl (cI, 2, .inl (fun _ => 0))), ((p2 49), .inl (cI, 22, .inl (fun _ => 0)))]) (fun (r9 : Int32) (u9 : Unit) => r9 = 0) := by
  refine fun sz => k_enter (cc := cX7_before) (maxL := 3) (ret := some (.int)) (Qc := fun A => va_Qi (fun (r9 : Int32) (u9 : Unit) => r9 = 0) (fun u => k_B (dC, dI) vwCl (tyy cI cJ cZ cM) A ((fun (u9 : Unit) => [(p0, .inr (7, oM p2 i7 j7)), ((p2 14), .inl (cI, 2, .inl (fun _ => 0))), ((p2 49), .inl (cI, 22, .inl (fun _ => 0)))]) u)) A) sz (by decide +kernel) rfl (Nat.le_of_ble_eq_true rfl) (fun p e s m args below meth c A ls H locs B hP hD hS hl => ?_)
  obtain ⟨hx, hb, hml, hown, hts, hr, hlk, hnm, hK, hA, hN, hC⟩ := id B
  have hown : s.vm.findClass RX7 = some m.cls := hown
  have hl : lv_has ls 3 [(0, .ref p0), (1, .int p1)] := hl
  have w_0 : (Cond.fieldLink RX7 162 "WishSeaModel" "hadOf" "[I").before args s = true := hts _ (List.mem_of_getElem? (i := 1) rfl)
  have hinX7 : ∀ w ∈ u_ws RX7 TX7 92, w ∈ wsX7_before := fun _ h => List.mem_cons_of_mem _ (List.mem_append_right _ h)
  rcases (show p1.toInt = 2 by omega) with c_1
  obtain rfl : p1 = 2 := k_eqL (by decide +kernel) c_1
  refine lv_iload_n hx hb dX7_before_0 rfl (lv_at hl 1 rfl) ?_
  refine lv_iconst (v := 0) hx hb dX7_before_1 (by decide +kernel) ?_
  refine lv_iconst (v := 2) hx hb dX7_before_2 (by decide +kernel) ?_
  refine k_ci (wc := []) (wr := [(p0, .inr (7, oM p2 i7 j7)), ((p2 14), .inl (cI, 2, .inl (fun _ => 0))), ((p2 49), .inl (cI, 22, .inl (fun _ => 0)))]) (fun hPc hDc hFc => va_runS (As := [.int 2, .int 0, .int 2]) (rest := []) ⟨hx, hb, hml, hown, hts⟩ (c_X7_is_v28 l dC dI cI cJ cZ cM H.size) (va_cwS 3 hts gX7_before_X7_is rfl rfl rfl (by decide +kernel) ⟨(Nat.le_of_ble_eq_true rfl), (Nat.le_of_ble_eq_true rfl)⟩) (k_pS hPc hDc hK hN hC hS hFc) rfl rfl hl.1 rfl (lv_room (Nat.le_of_ble_eq_true rfl)) dX7_before_3 ⟨(Nat.le_of_ble_eq_true rfl), (Nat.le_of_ble_eq_true rfl)⟩) hP hD hS hA [] [0, 1, 2] rfl rfl rfl rfl (by decide) (fun _ => rfl) 0 0 rfl rfl (fun r_2 u_3 H locs hw hP hD hS => ?_)
  obtain rfl : r_2 = 1 := hw
  have hP : va_P (dC, dI) vwCl [(p0, .inr (7, oM p2 i7 j7)), ((p2 14), .inl (cI, 2, .inl (fun _ => 0))), ((p2 49), .inl (cI, 22, .inl (fun _ => 0)))] H := hP
  have hD : va_D A [(p0, .inr (7, oM p2 i7 j7)), ((p2 14), .inl (cI, 2, .inl (fun _ => 0))), ((p2 49), .inl (cI, 22, .inl (fun _ => 0)))] := hD
  refine lv_if_ne (tgt := 11) hx hb dX7_before_6 (by decide) (fun _ => ?_) (fun q9 => absurd q9 (by decide +kernel))
  refine lv_aload_n hx hb dX7_before_11 rfl (lv_at hl 0 rfl) ?_
  refine k_ci (wc := [(p0, .inr (7, oM p2 i7 j7)), ((p2 14), .inl (cI, 2, .inl (fun _ => 0)))]) (wr := [((p2 49), .inl (cI, 22, .inl (fun _ => 0)))]) (fun hPc hDc hFc => va_runV (As := []) (rest := []) ⟨hx, hb, hml, hown, hts⟩ (c_X7_briefOnes_v2 l dC dI cI cJ cZ cM p0 p2 H.size) (cwV 0 hts gX7_before_X7_briefOnes rfl rfl rfl (by decide +kernel) ⟨(Nat.le_of_ble_eq_true rfl), (Nat.le_of_ble_eq_true rfl)⟩) (k_pV hPc hDc hK hN hC hS hFc hP (q0 := 0) (ci := 7) rfl rfl) rfl rfl hl.1 rfl (lv_room (Nat.le_of_ble_eq_true rfl)) dX7_before_12 ⟨(Nat.le_of_ble_eq_true rfl), (Nat.le_of_ble_eq_true rfl)⟩) hP hD hS hA [0, 1] [2] rfl rfl rfl rfl (by decide) (fun _ => rfl) 0 0 rfl rfl (fun r_4 u_5 H locs hw hP hD hS => ?_)
  obtain rfl : r_4 = 0 := hw
  have hP : va_P (dC, dI) vwCl [((p2 49), .inl (cI, 22, .inl (fun _ => 0))), (p0, .inr (7, oM p2 i7 j7)), ((p2 14), .inl (cI, 2, .inl (fun _ => 0)))] H := hP
  have hD : va_D A [((p2 49), .inl (cI, 22, .inl (fun _ => 0))), (p0, .inr (7, oM p2 i7 j7)), ((p2 14), .inl (cI, 2, .inl (fun _ => 0)))] := hD
  refine lv_istore_n (lv' := [(2, .int 0), (0, .ref p0), (1, .int 2)]) hx hb dX7_before_15 rfl hl (by decide) rfl (fun ls hl => ?_)
  refine lv_aload_n hx hb dX7_before_16 rfl (lv_at hl 1 rfl) ?_
  refine k_get (D := (dC, dI)) (ci := 7) (v := .ref (p2 49)) (C := RX7) (T := TX7) (N := 92) hx hb hts hinX7 hown hK hP 1 rfl rfl 49 (by decide) w_0 rfl rfl dX7_before_17 ?_
  refine lv_iconst (v := 0) hx hb dX7_before_20 (by decide +kernel) ?_
  refine k_iald (v := 0) hx hb hK hP 0 0 0 rfl rfl rfl (Nat.le_of_ble_eq_true rfl) (Nat.le_of_ble_eq_true rfl) rfl dX7_before_21 ?_
  refine lv_iload_n hx hb dX7_before_22 rfl (lv_at hl 0 rfl) ?_
  refine lv_iand hx hb dX7_before_23 ?_
  refine k_int (v := 0) (by decide +kernel) ?_
  refine lv_if_eq (tgt := 37) hx hb dX7_before_24 (by decide) (fun _ => ?_) (fun q9 => absurd q9 (by decide +kernel))
  refine lv_iload_n hx hb dX7_before_37 rfl (lv_at hl 2 rfl) ?_
  refine lv_if_ne (tgt := 50) hx hb dX7_before_38 (by decide) (fun _ => ?_) (fun q9 => absurd q9 (by decide +kernel))
  refine lv_iload_n hx hb dX7_before_50 rfl (lv_at hl 2 rfl) ?_
  refine lv_iconst (v := 1) hx hb dX7_before_51 (by decide +kernel) ?_
  refine lv_icmp_ne (tgt := 64) hx hb dX7_before_52 (by decide) (fun _ => ?_) (fun q9 => absurd q9 (by decide +kernel))
  refine lv_aload_n hx hb dX7_before_64 rfl (lv_at hl 1 rfl) ?_
  refine k_get (D := (dC, dI)) (ci := 7) (v := .ref (p2 49)) (C := RX7) (T := TX7) (N := 92) hx hb hts hinX7 hown hK hP 1 rfl rfl 49 (by decide) w_0 rfl rfl dX7_before_65 ?_
  refine lv_iconst (v := 0) hx hb dX7_before_68 (by decide +kernel) ?_
  refine k_iald (v := 0) hx hb hK hP 0 0 0 rfl rfl rfl (Nat.le_of_ble_eq_true rfl) (Nat.le_of_ble_eq_true rfl) rfl dX7_before_69 ?_
  refine lv_iload_n hx hb dX7_before_70 rfl (lv_at hl 0 rfl) ?_
  refine lv_ior hx hb dX7_before_71 ?_
  refine k_int (v := 0) (by decide +kernel) ?_
  exact k_ri B hP hD hS dX7_before_72 () [1, 2, 0] rfl rfl rfl (Nat.le_of_ble_eq_true rfl) (Nat.le_of_ble_eq_true rfl) rfl
set_option maxHeartbeats 4000000 in
set_option maxRecDepth 100000 in
theorem c_X7_before_v3 (l : Launch) (dC : Nat → ClassId) (dI : Nat → Nat → Nat) (cI cJ cZ cM : ClassId) (p0 : Nat) (p1 : Int32) (p2 : Nat → Nat)   : k_Mi l yX7_before wsX7_before ({ frames := 2, cells := 0, slots := 0, locals := 62 }) (dC, dI) vwCl (tyy cI cJ cZ cM) [(p0, .inr (7, oM p2 i7 j7)), ((p2 14), .inl (cI, 2, .inl (fun _ => 0))), ((p2 49), .inl (cI, 22, .inl (fun _ => 0)))] [.ref p0, .int p1] 0 0 (fun (u9 : (Nat × (Nat → Nat))) => [(p0, .inr (7, oM p2 i7 j7)), ((p2 14), .inl (cI, 2, .inl (fun _ => 0))), ((p2 49), .inl (cI, 22, .inl (fun _ => 0)))]) (fun (r9 : Int32) (u9 : (Nat × (Nat → Nat))) => match u9.1 with | 0 => (p1.toInt < 0) ∧ r9 = (-1) | 1 => (0 ≤ p1.toInt) ∧ (2 < p1.toInt) ∧ r9 = (-1) | 2 => (0 ≤ p1.toInt) ∧ (p1.toInt ≤ 2) ∧ (¬ p1.toInt = 0) ∧ (¬ p1.toInt = 1) ∧ r9 = 0 | 3 => (0 ≤ p1.toInt) ∧ (p1.toInt ≤ 2) ∧ (¬ p1.toInt = 0) ∧ (p1.toInt = 1) ∧ r9 = 0 | 4 => (0 ≤ p1.toInt) ∧ (p1.toInt ≤ 2) ∧ (p1.toInt = 0) ∧ r9 = 1 | _ => False) := by
  refine fun sz => k_enter (cc := cX7_before) (maxL := 3) (ret := some (.int)) (Qc := fun A => va_Qi (fun (r9 : Int32) (u9 : (Nat × (Nat → Nat))) => match u9.1 with | 0 => (p1.toInt < 0) ∧ r9 = (-1) | 1 => (0 ≤ p1.toInt) ∧ (2 < p1.toInt) ∧ r9 = (-1) | 2 => (0 ≤ p1.toInt) ∧ (p1.toInt ≤ 2) ∧ (¬ p1.toInt = 0) ∧ (¬ p1.toInt = 1) ∧ r9 = 0 | 3 => (0 ≤ p1.toInt) ∧ (p1.toInt ≤ 2) ∧ (¬ p1.toInt = 0) ∧ (p1.toInt = 1) ∧ r9 = 0 | 4 => (0 ≤ p1.toInt) ∧ (p1.toInt ≤ 2) ∧ (p1.toInt = 0) ∧ r9 = 1 | _ => False) (fun u => k_B (dC, dI) vwCl (tyy cI cJ cZ cM) A ((fun (u9 : (Nat × (Nat → Nat))) => [(p0, .inr (7, oM p2 i7 j7)), ((p2 14), .inl (cI, 2, .inl (fun _ => 0))), ((p2 49), .inl (cI, 22, .inl (fun _ => 0)))]) u)) A) sz (by decide +kernel) rfl (Nat.le_of_ble_eq_true rfl) (fun p e s m args below meth c A ls H locs B hP hD hS hl => ?_)
  obtain ⟨hx, hb, hml, hown, hts, hr, hlk, hnm, hK, hA, hN, hC⟩ := id B
  have hown : s.vm.findClass RX7 = some m.cls := hown
  have hl : lv_has ls 3 [(0, .ref p0), (1, .int p1)] := hl
  have w_0 : (Cond.fieldLink RX7 162 "WishSeaModel" "hadOf" "[I").before args s = true := hts _ (List.mem_of_getElem? (i := 1) rfl)
  have hinX7 : ∀ w ∈ u_ws RX7 TX7 92, w ∈ wsX7_before := fun _ h => List.mem_cons_of_mem _ (List.mem_append_right _ h)
  refine lv_iload_n hx hb dX7_before_0 rfl (lv_at hl 1 rfl) ?_
  refine lv_iconst (v := 0) hx hb dX7_before_1 (by decide +kernel) ?_
  refine lv_iconst (v := 2) hx hb dX7_before_2 (by decide +kernel) ?_
  refine k_ci (wc := []) (wr := [(p0, .inr (7, oM p2 i7 j7)), ((p2 14), .inl (cI, 2, .inl (fun _ => 0))), ((p2 49), .inl (cI, 22, .inl (fun _ => 0)))]) (fun hPc hDc hFc => va_runS (As := [.int p1, .int 0, .int 2]) (rest := []) ⟨hx, hb, hml, hown, hts⟩ (c_X7_is_v25 l dC dI cI cJ cZ cM p1 H.size) (va_cwS 3 hts gX7_before_X7_is rfl rfl rfl (by decide +kernel) ⟨(Nat.le_of_ble_eq_true rfl), (Nat.le_of_ble_eq_true rfl)⟩) (k_pS hPc hDc hK hN hC hS hFc) rfl rfl hl.1 rfl (lv_room (Nat.le_of_ble_eq_true rfl)) dX7_before_3 ⟨(Nat.le_of_ble_eq_true rfl), (Nat.le_of_ble_eq_true rfl)⟩) hP hD hS hA [] [0, 1, 2] rfl rfl rfl rfl (by decide) (fun _ => rfl) 0 0 rfl rfl (fun r_1 u_2 H locs hw hP hD hS => ?_)
  obtain ⟨k_u_2, u_u_2⟩ := u_2
  rcases k_u_2 with _ | _ | _ | k_u_2
  · obtain ⟨c_3, rfl⟩ : (p1.toInt < 0) ∧ r_1 = 0 := hw
    have hP : va_P (dC, dI) vwCl [(p0, .inr (7, oM p2 i7 j7)), ((p2 14), .inl (cI, 2, .inl (fun _ => 0))), ((p2 49), .inl (cI, 22, .inl (fun _ => 0)))] H := hP
    have hD : va_D A [(p0, .inr (7, oM p2 i7 j7)), ((p2 14), .inl (cI, 2, .inl (fun _ => 0))), ((p2 49), .inl (cI, 22, .inl (fun _ => 0)))] := hD
    refine lv_if_ne (tgt := 11) hx hb dX7_before_6 (by decide) (fun q9 => absurd q9 (by decide +kernel)) (fun _ => ?_)
    refine lv_iconst (v := (-1)) hx hb dX7_before_9 (by decide +kernel) ?_
    exact k_ri B hP hD hS dX7_before_10 (0, (fun _ => 0)) [0, 1, 2] rfl rfl rfl (Nat.le_of_ble_eq_true rfl) (Nat.le_of_ble_eq_true rfl) ⟨c_3, rfl⟩
  · obtain ⟨c_4, c_5, rfl⟩ : (0 ≤ p1.toInt) ∧ (2 < p1.toInt) ∧ r_1 = 0 := hw
    have hP : va_P (dC, dI) vwCl [(p0, .inr (7, oM p2 i7 j7)), ((p2 14), .inl (cI, 2, .inl (fun _ => 0))), ((p2 49), .inl (cI, 22, .inl (fun _ => 0)))] H := hP
    have hD : va_D A [(p0, .inr (7, oM p2 i7 j7)), ((p2 14), .inl (cI, 2, .inl (fun _ => 0))), ((p2 49), .inl (cI, 22, .inl (fun _ => 0)))] := hD
    refine lv_if_ne (tgt := 11) hx hb dX7_before_6 (by decide) (fun q9 => absurd q9 (by decide +kernel)) (fun _ => ?_)
    refine lv_iconst (v := (-1)) hx hb dX7_before_9 (by decide +kernel) ?_
    exact k_ri B hP hD hS dX7_before_10 (1, (fun _ => 0)) [0, 1, 2] rfl rfl rfl (Nat.le_of_ble_eq_true rfl) (Nat.le_of_ble_eq_true rfl) ⟨c_4, c_5, rfl⟩
  · obtain ⟨c_6, c_7, rfl⟩ : (0 ≤ p1.toInt) ∧ (p1.toInt ≤ 2) ∧ r_1 = 1 := hw
    have hP : va_P (dC, dI) vwCl [(p0, .inr (7, oM p2 i7 j7)), ((p2 14), .inl (cI, 2, .inl (fun _ => 0))), ((p2 49), .inl (cI, 22, .inl (fun _ => 0)))] H := hP
    have hD : va_D A [(p0, .inr (7, oM p2 i7 j7)), ((p2 14), .inl (cI, 2, .inl (fun _ => 0))), ((p2 49), .inl (cI, 22, .inl (fun _ => 0)))] := hD
    refine lv_if_ne (tgt := 11) hx hb dX7_before_6 (by decide) (fun _ => ?_) (fun q9 => absurd q9 (by decide +kernel))
    refine lv_aload_n hx hb dX7_before_11 rfl (lv_at hl 0 rfl) ?_
    refine k_ci (wc := [(p0, .inr (7, oM p2 i7 j7)), ((p2 14), .inl (cI, 2, .inl (fun _ => 0)))]) (wr := [((p2 49), .inl (cI, 22, .inl (fun _ => 0)))]) (fun hPc hDc hFc => va_runV (As := []) (rest := []) ⟨hx, hb, hml, hown, hts⟩ (c_X7_briefOnes_v2 l dC dI cI cJ cZ cM p0 p2 H.size) (cwV 0 hts gX7_before_X7_briefOnes rfl rfl rfl (by decide +kernel) ⟨(Nat.le_of_ble_eq_true rfl), (Nat.le_of_ble_eq_true rfl)⟩) (k_pV hPc hDc hK hN hC hS hFc hP (q0 := 0) (ci := 7) rfl rfl) rfl rfl hl.1 rfl (lv_room (Nat.le_of_ble_eq_true rfl)) dX7_before_12 ⟨(Nat.le_of_ble_eq_true rfl), (Nat.le_of_ble_eq_true rfl)⟩) hP hD hS hA [0, 1] [2] rfl rfl rfl rfl (by decide) (fun _ => rfl) 0 0 rfl rfl (fun r_8 u_9 H locs hw hP hD hS => ?_)
    obtain rfl : r_8 = 0 := hw
    have hP : va_P (dC, dI) vwCl [((p2 49), .inl (cI, 22, .inl (fun _ => 0))), (p0, .inr (7, oM p2 i7 j7)), ((p2 14), .inl (cI, 2, .inl (fun _ => 0)))] H := hP
    have hD : va_D A [((p2 49), .inl (cI, 22, .inl (fun _ => 0))), (p0, .inr (7, oM p2 i7 j7)), ((p2 14), .inl (cI, 2, .inl (fun _ => 0)))] := hD
    refine lv_istore_n (lv' := [(2, .int 0), (0, .ref p0), (1, .int p1)]) hx hb dX7_before_15 rfl hl (by decide) rfl (fun ls hl => ?_)
    refine lv_aload_n hx hb dX7_before_16 rfl (lv_at hl 1 rfl) ?_
    refine k_get (D := (dC, dI)) (ci := 7) (v := .ref (p2 49)) (C := RX7) (T := TX7) (N := 92) hx hb hts hinX7 hown hK hP 1 rfl rfl 49 (by decide) w_0 rfl rfl dX7_before_17 ?_
    refine lv_iconst (v := 0) hx hb dX7_before_20 (by decide +kernel) ?_
    refine k_iald (v := 0) hx hb hK hP 0 0 0 rfl rfl rfl (Nat.le_of_ble_eq_true rfl) (Nat.le_of_ble_eq_true rfl) rfl dX7_before_21 ?_
    refine lv_iload_n hx hb dX7_before_22 rfl (lv_at hl 0 rfl) ?_
    refine lv_iand hx hb dX7_before_23 ?_
    refine k_int (v := 0) (by decide +kernel) ?_
    refine lv_if_eq (tgt := 37) hx hb dX7_before_24 (by decide) (fun _ => ?_) (fun q9 => absurd q9 (by decide +kernel))
    refine lv_iload_n hx hb dX7_before_37 rfl (lv_at hl 2 rfl) ?_
    refine lv_if_ne (tgt := 50) hx hb dX7_before_38 (by decide) (fun c_10 => ?_) (fun c_10 => ?_)
    · have c_10 : ¬ p1.toInt = 0 := k_eqF rfl (by decide +kernel) c_10
      refine lv_iload_n hx hb dX7_before_50 rfl (lv_at hl 2 rfl) ?_
      refine lv_iconst (v := 1) hx hb dX7_before_51 (by decide +kernel) ?_
      refine lv_icmp_ne (tgt := 64) hx hb dX7_before_52 (by decide) (fun c_11 => ?_) (fun c_11 => ?_)
      · have c_11 : ¬ p1.toInt = 1 := k_eqF rfl (by decide +kernel) c_11
        refine lv_aload_n hx hb dX7_before_64 rfl (lv_at hl 1 rfl) ?_
        refine k_get (D := (dC, dI)) (ci := 7) (v := .ref (p2 49)) (C := RX7) (T := TX7) (N := 92) hx hb hts hinX7 hown hK hP 1 rfl rfl 49 (by decide) w_0 rfl rfl dX7_before_65 ?_
        refine lv_iconst (v := 0) hx hb dX7_before_68 (by decide +kernel) ?_
        refine k_iald (v := 0) hx hb hK hP 0 0 0 rfl rfl rfl (Nat.le_of_ble_eq_true rfl) (Nat.le_of_ble_eq_true rfl) rfl dX7_before_69 ?_
        refine lv_iload_n hx hb dX7_before_70 rfl (lv_at hl 0 rfl) ?_
        refine lv_ior hx hb dX7_before_71 ?_
        refine k_int (v := 0) (by decide +kernel) ?_
        exact k_ri B hP hD hS dX7_before_72 (2, (fun _ => 0)) [1, 2, 0] rfl rfl rfl (Nat.le_of_ble_eq_true rfl) (Nat.le_of_ble_eq_true rfl) ⟨c_6, c_7, c_10, c_11, rfl⟩
      · have c_11 : p1.toInt = 1 := k_eqT rfl (by decide +kernel) c_11
        refine lv_aload_n hx hb dX7_before_55 rfl (lv_at hl 1 rfl) ?_
        refine k_get (D := (dC, dI)) (ci := 7) (v := .ref (p2 49)) (C := RX7) (T := TX7) (N := 92) hx hb hts hinX7 hown hK hP 1 rfl rfl 49 (by decide) w_0 rfl rfl dX7_before_56 ?_
        refine lv_iconst (v := 0) hx hb dX7_before_59 (by decide +kernel) ?_
        refine k_iald (v := 0) hx hb hK hP 0 0 0 rfl rfl rfl (Nat.le_of_ble_eq_true rfl) (Nat.le_of_ble_eq_true rfl) rfl dX7_before_60 ?_
        refine lv_goto (tgt := 72) hx hb dX7_before_61 (by decide) ?_
        exact k_ri B hP hD hS dX7_before_72 (3, (fun _ => 0)) [1, 2, 0] rfl rfl rfl (Nat.le_of_ble_eq_true rfl) (Nat.le_of_ble_eq_true rfl) ⟨c_6, c_7, c_10, c_11, rfl⟩
    · have c_10 : p1.toInt = 0 := k_eqT rfl (by decide +kernel) c_10
      refine lv_iconst (v := 1) hx hb dX7_before_41 (by decide +kernel) ?_
      refine lv_iload_n hx hb dX7_before_42 rfl (lv_at hl 0 rfl) ?_
      refine k_ci (wc := []) (wr := [((p2 49), .inl (cI, 22, .inl (fun _ => 0))), (p0, .inr (7, oM p2 i7 j7)), ((p2 14), .inl (cI, 2, .inl (fun _ => 0)))]) (fun hPc hDc hFc => va_runS (As := [.int 0]) (rest := [.int 1]) ⟨hx, hb, hml, hown, hts⟩ (c_X7_bits_v0 l dC dI cI cJ cZ cM H.size) (va_cwS 1 hts gX7_before_X7_bits rfl rfl rfl (by decide +kernel) ⟨(Nat.le_of_ble_eq_true rfl), (Nat.le_of_ble_eq_true rfl)⟩) (k_pS hPc hDc hK hN hC hS hFc) rfl rfl hl.1 rfl (lv_room (Nat.le_of_ble_eq_true rfl)) dX7_before_43 ⟨(Nat.le_of_ble_eq_true rfl), (Nat.le_of_ble_eq_true rfl)⟩) hP hD hS hA [] [0, 1, 2] rfl rfl rfl rfl (by decide) (fun _ => rfl) 0 0 rfl rfl (fun r_12 u_13 H locs hw hP hD hS => ?_)
      obtain rfl : r_12 = 0 := hw
      have hP : va_P (dC, dI) vwCl [((p2 49), .inl (cI, 22, .inl (fun _ => 0))), (p0, .inr (7, oM p2 i7 j7)), ((p2 14), .inl (cI, 2, .inl (fun _ => 0)))] H := hP
      have hD : va_D A [((p2 49), .inl (cI, 22, .inl (fun _ => 0))), (p0, .inr (7, oM p2 i7 j7)), ((p2 14), .inl (cI, 2, .inl (fun _ => 0)))] := hD
      refine lv_ishl hx hb dX7_before_46 ?_
      refine k_int (v := 1) (by decide +kernel) ?_
      refine lv_goto (tgt := 72) hx hb dX7_before_47 (by decide) ?_
      exact k_ri B hP hD hS dX7_before_72 (4, (fun _ => 0)) [1, 2, 0] rfl rfl rfl (Nat.le_of_ble_eq_true rfl) (Nat.le_of_ble_eq_true rfl) ⟨c_6, c_7, c_10, rfl⟩
  · exact False.elim hw
set_option maxHeartbeats 4000000 in
set_option maxRecDepth 100000 in
theorem c_X6_putPair_v0 (l : Launch) (dC : Nat → ClassId) (dI : Nat → Nat → Nat) (cI cJ cZ cM : ClassId) (p0 : Nat) (p1 : Nat → Nat)   : k_Mv l yX6_putPair wsX6_putPair ({ frames := 1, cells := 0, slots := 0, locals := 40 }) (dC, dI) vwCl (tyy cI cJ cZ cM) [(p0, .inr (6, [.ref (p1 0), .int 0, .ref (p1 1), .ref (p1 14), .ref (p1 27), .ref (p1 28), .ref (p1 29), .ref (p1 30), .ref (p1 54), .null, .int 1, .int 1, .int 999, .ref (p1 61), .ref (p1 62), .ref (p1 63), .ref (p1 60)])), ((p1 63), .inl (cI, 9, .inl (fun _ => (-1))))] [.ref p0, .int 0, .int 0] 0 0 (fun (u9 : Unit) => [(p0, .inr (6, [.ref (p1 0), .int 0, .ref (p1 1), .ref (p1 14), .ref (p1 27), .ref (p1 28), .ref (p1 29), .ref (p1 30), .ref (p1 54), .null, .int 1, .int 1, .int 999, .ref (p1 61), .ref (p1 62), .ref (p1 63), .ref (p1 60)])), ((p1 63), .inl (cI, 9, .inl (upd (upd (fun _ => (-1)) 0 0) 1 0)))]) (fun (u9 : Unit) => True) := by
  refine fun sz => k_enter (cc := cX6_putPair) (maxL := 3) (ret := none) (Qc := fun A => va_Qv (fun (u9 : Unit) => True) (fun u => k_B (dC, dI) vwCl (tyy cI cJ cZ cM) A ((fun (u9 : Unit) => [(p0, .inr (6, [.ref (p1 0), .int 0, .ref (p1 1), .ref (p1 14), .ref (p1 27), .ref (p1 28), .ref (p1 29), .ref (p1 30), .ref (p1 54), .null, .int 1, .int 1, .int 999, .ref (p1 61), .ref (p1 62), .ref (p1 63), .ref (p1 60)])), ((p1 63), .inl (cI, 9, .inl (upd (upd (fun _ => (-1)) 0 0) 1 0)))]) u)) A) sz (by decide +kernel) rfl (Nat.le_of_ble_eq_true rfl) (fun p e s m args below meth c A ls H locs B hP hD hS hl => ?_)
  obtain ⟨hx, hb, hml, hown, hts, hr, hlk, hnm, hK, hA, hN, hC⟩ := id B
  have hown : s.vm.findClass RX6 = some m.cls := hown
  have hl : lv_has ls 3 [(0, .ref p0), (1, .int 0), (2, .int 0)] := hl
  have w_0 : (Cond.fieldLink RX6 75 "WishSea" "octets" "[I").before args s = true := hts _ (List.mem_of_getElem? (i := 1) rfl)
  have hinX6 : ∀ w ∈ u_ws RX6 TX6 17, w ∈ wsX6_putPair := fun _ h => List.mem_cons_of_mem _ (List.mem_append_right _ h)
  refine lv_iload_n hx hb dX6_putPair_0 rfl (lv_at hl 1 rfl) ?_
  refine lv_if_lt (tgt := 42) hx hb dX6_putPair_1 (by decide) (fun q9 => absurd q9 (by decide +kernel)) (fun _ => ?_)
  refine lv_iload_n hx hb dX6_putPair_4 rfl (lv_at hl 1 rfl) ?_
  refine lv_iconst (v := 1) hx hb dX6_putPair_5 (by decide +kernel) ?_
  refine lv_iadd hx hb dX6_putPair_6 ?_
  refine k_int (v := 1) (by decide +kernel) ?_
  refine lv_aload_n hx hb dX6_putPair_7 rfl (lv_at hl 0 rfl) ?_
  refine k_get (D := (dC, dI)) (ci := 6) (v := .ref (p1 63)) (C := RX6) (T := TX6) (N := 17) hx hb hts hinX6 hown hK hP 0 rfl rfl 15 (by decide) w_0 rfl rfl dX6_putPair_8 ?_
  refine va_alen (v := 9) hx hb hK hP 1 0 rfl rfl rfl dX6_putPair_11 ?_
  refine lv_icmp_ge (tgt := 42) hx hb dX6_putPair_12 (by decide) (fun q9 => absurd q9 (by decide +kernel)) (fun _ => ?_)
  refine lv_aload_n hx hb dX6_putPair_15 rfl (lv_at hl 0 rfl) ?_
  refine k_get (D := (dC, dI)) (ci := 6) (v := .ref (p1 63)) (C := RX6) (T := TX6) (N := 17) hx hb hts hinX6 hown hK hP 0 rfl rfl 15 (by decide) w_0 rfl rfl dX6_putPair_16 ?_
  refine lv_iload_n hx hb dX6_putPair_19 rfl (lv_at hl 1 rfl) ?_
  refine lv_iload_n hx hb dX6_putPair_20 rfl (lv_at hl 2 rfl) ?_
  refine lv_bipush (v := 8) hx hb dX6_putPair_21 (by decide +kernel) ?_
  refine lv_ishr hx hb dX6_putPair_23 ?_
  refine k_int (v := 0) (by decide +kernel) ?_
  refine lv_sipush (v := 255) hx hb dX6_putPair_24 (by decide +kernel) ?_
  refine lv_iand hx hb dX6_putPair_27 ?_
  refine k_int (v := 0) (by decide +kernel) ?_
  refine k_iast (g := (upd (fun _ => (-1)) 0 0)) (ws' := [(p0, .inr (6, [.ref (p1 0), .int 0, .ref (p1 1), .ref (p1 14), .ref (p1 27), .ref (p1 28), .ref (p1 29), .ref (p1 30), .ref (p1 54), .null, .int 1, .int 1, .int 999, .ref (p1 61), .ref (p1 62), .ref (p1 63), .ref (p1 60)])), ((p1 63), .inl (cI, 9, .inl (upd (fun _ => (-1)) 0 0)))]) hx hb hK hP hD hS 1 0 0 rfl rfl rfl (Nat.le_of_ble_eq_true rfl) (Nat.le_of_ble_eq_true rfl) rfl rfl dX6_putPair_28 (fun H locs hP hD hS => ?_)
  refine lv_aload_n hx hb dX6_putPair_29 rfl (lv_at hl 0 rfl) ?_
  refine k_get (D := (dC, dI)) (ci := 6) (v := .ref (p1 63)) (C := RX6) (T := TX6) (N := 17) hx hb hts hinX6 hown hK hP 0 rfl rfl 15 (by decide) w_0 rfl rfl dX6_putPair_30 ?_
  refine lv_iload_n hx hb dX6_putPair_33 rfl (lv_at hl 1 rfl) ?_
  refine lv_iconst (v := 1) hx hb dX6_putPair_34 (by decide +kernel) ?_
  refine lv_iadd hx hb dX6_putPair_35 ?_
  refine k_int (v := 1) (by decide +kernel) ?_
  refine lv_iload_n hx hb dX6_putPair_36 rfl (lv_at hl 2 rfl) ?_
  refine lv_sipush (v := 255) hx hb dX6_putPair_37 (by decide +kernel) ?_
  refine lv_iand hx hb dX6_putPair_40 ?_
  refine k_int (v := 0) (by decide +kernel) ?_
  refine k_iast (g := (upd (upd (fun _ => (-1)) 0 0) 1 0)) (ws' := [(p0, .inr (6, [.ref (p1 0), .int 0, .ref (p1 1), .ref (p1 14), .ref (p1 27), .ref (p1 28), .ref (p1 29), .ref (p1 30), .ref (p1 54), .null, .int 1, .int 1, .int 999, .ref (p1 61), .ref (p1 62), .ref (p1 63), .ref (p1 60)])), ((p1 63), .inl (cI, 9, .inl (upd (upd (fun _ => (-1)) 0 0) 1 0)))]) hx hb hK hP hD hS 1 0 1 rfl rfl rfl (Nat.le_of_ble_eq_true rfl) (Nat.le_of_ble_eq_true rfl) rfl rfl dX6_putPair_41 (fun H locs hP hD hS => ?_)
  exact k_rv B hP hD hS dX6_putPair_42 () [0, 1] rfl rfl (Nat.le_of_ble_eq_true rfl) (Nat.le_of_ble_eq_true rfl) trivial
set_option maxHeartbeats 4000000 in
set_option maxRecDepth 100000 in
theorem c_X6_putPair_v1 (l : Launch) (dC : Nat → ClassId) (dI : Nat → Nat → Nat) (cI cJ cZ cM : ClassId) (p0 : Nat) (p1 : Nat → Nat)   : k_Mv l yX6_putPair wsX6_putPair ({ frames := 1, cells := 0, slots := 0, locals := 40 }) (dC, dI) vwCl (tyy cI cJ cZ cM) [(p0, .inr (6, [.ref (p1 0), .int 0, .ref (p1 1), .ref (p1 14), .ref (p1 27), .ref (p1 28), .ref (p1 29), .ref (p1 30), .ref (p1 54), .null, .int 1, .int 1, .int 999, .ref (p1 61), .ref (p1 62), .ref (p1 63), .ref (p1 60)])), ((p1 63), .inl (cI, 9, .inl (upd (upd (fun _ => (-1)) 0 0) 1 0)))] [.ref p0, .int 2, .int 0] 0 0 (fun (u9 : Unit) => [(p0, .inr (6, [.ref (p1 0), .int 0, .ref (p1 1), .ref (p1 14), .ref (p1 27), .ref (p1 28), .ref (p1 29), .ref (p1 30), .ref (p1 54), .null, .int 1, .int 1, .int 999, .ref (p1 61), .ref (p1 62), .ref (p1 63), .ref (p1 60)])), ((p1 63), .inl (cI, 9, .inl (upd (upd (upd (upd (fun _ => (-1)) 0 0) 1 0) 2 0) 3 0)))]) (fun (u9 : Unit) => True) := by
  refine fun sz => k_enter (cc := cX6_putPair) (maxL := 3) (ret := none) (Qc := fun A => va_Qv (fun (u9 : Unit) => True) (fun u => k_B (dC, dI) vwCl (tyy cI cJ cZ cM) A ((fun (u9 : Unit) => [(p0, .inr (6, [.ref (p1 0), .int 0, .ref (p1 1), .ref (p1 14), .ref (p1 27), .ref (p1 28), .ref (p1 29), .ref (p1 30), .ref (p1 54), .null, .int 1, .int 1, .int 999, .ref (p1 61), .ref (p1 62), .ref (p1 63), .ref (p1 60)])), ((p1 63), .inl (cI, 9, .inl (upd (upd (upd (upd (fun _ => (-1)) 0 0) 1 0) 2 0) 3 0)))]) u)) A) sz (by decide +kernel) rfl (Nat.le_of_ble_eq_true rfl) (fun p e s m args below meth c A ls H locs B hP hD hS hl => ?_)
  obtain ⟨hx, hb, hml, hown, hts, hr, hlk, hnm, hK, hA, hN, hC⟩ := id B
  have hown : s.vm.findClass RX6 = some m.cls := hown
  have hl : lv_has ls 3 [(0, .ref p0), (1, .int 2), (2, .int 0)] := hl
  have w_0 : (Cond.fieldLink RX6 75 "WishSea" "octets" "[I").before args s = true := hts _ (List.mem_of_getElem? (i := 1) rfl)
  have hinX6 : ∀ w ∈ u_ws RX6 TX6 17, w ∈ wsX6_putPair := fun _ h => List.mem_cons_of_mem _ (List.mem_append_right _ h)
  refine lv_iload_n hx hb dX6_putPair_0 rfl (lv_at hl 1 rfl) ?_
  refine lv_if_lt (tgt := 42) hx hb dX6_putPair_1 (by decide) (fun q9 => absurd q9 (by decide +kernel)) (fun _ => ?_)
  refine lv_iload_n hx hb dX6_putPair_4 rfl (lv_at hl 1 rfl) ?_
  refine lv_iconst (v := 1) hx hb dX6_putPair_5 (by decide +kernel) ?_
  refine lv_iadd hx hb dX6_putPair_6 ?_
  refine k_int (v := 3) (by decide +kernel) ?_
  refine lv_aload_n hx hb dX6_putPair_7 rfl (lv_at hl 0 rfl) ?_
  refine k_get (D := (dC, dI)) (ci := 6) (v := .ref (p1 63)) (C := RX6) (T := TX6) (N := 17) hx hb hts hinX6 hown hK hP 0 rfl rfl 15 (by decide) w_0 rfl rfl dX6_putPair_8 ?_
  refine va_alen (v := 9) hx hb hK hP 1 0 rfl rfl rfl dX6_putPair_11 ?_
  refine lv_icmp_ge (tgt := 42) hx hb dX6_putPair_12 (by decide) (fun q9 => absurd q9 (by decide +kernel)) (fun _ => ?_)
  refine lv_aload_n hx hb dX6_putPair_15 rfl (lv_at hl 0 rfl) ?_
  refine k_get (D := (dC, dI)) (ci := 6) (v := .ref (p1 63)) (C := RX6) (T := TX6) (N := 17) hx hb hts hinX6 hown hK hP 0 rfl rfl 15 (by decide) w_0 rfl rfl dX6_putPair_16 ?_
  refine lv_iload_n hx hb dX6_putPair_19 rfl (lv_at hl 1 rfl) ?_
  refine lv_iload_n hx hb dX6_putPair_20 rfl (lv_at hl 2 rfl) ?_
  refine lv_bipush (v := 8) hx hb dX6_putPair_21 (by decide +kernel) ?_
  refine lv_ishr hx hb dX6_putPair_23 ?_
  refine k_int (v := 0) (by decide +kernel) ?_
  refine lv_sipush (v := 255) hx hb dX6_putPair_24 (by decide +kernel) ?_
  refine lv_iand hx hb dX6_putPair_27 ?_
  refine k_int (v := 0) (by decide +kernel) ?_
  refine k_iast (g := (upd (upd (upd (fun _ => (-1)) 0 0) 1 0) 2 0)) (ws' := [(p0, .inr (6, [.ref (p1 0), .int 0, .ref (p1 1), .ref (p1 14), .ref (p1 27), .ref (p1 28), .ref (p1 29), .ref (p1 30), .ref (p1 54), .null, .int 1, .int 1, .int 999, .ref (p1 61), .ref (p1 62), .ref (p1 63), .ref (p1 60)])), ((p1 63), .inl (cI, 9, .inl (upd (upd (upd (fun _ => (-1)) 0 0) 1 0) 2 0)))]) hx hb hK hP hD hS 1 0 2 rfl rfl rfl (Nat.le_of_ble_eq_true rfl) (Nat.le_of_ble_eq_true rfl) rfl rfl dX6_putPair_28 (fun H locs hP hD hS => ?_)
  refine lv_aload_n hx hb dX6_putPair_29 rfl (lv_at hl 0 rfl) ?_
  refine k_get (D := (dC, dI)) (ci := 6) (v := .ref (p1 63)) (C := RX6) (T := TX6) (N := 17) hx hb hts hinX6 hown hK hP 0 rfl rfl 15 (by decide) w_0 rfl rfl dX6_putPair_30 ?_
  refine lv_iload_n hx hb dX6_putPair_33 rfl (lv_at hl 1 rfl) ?_
  refine lv_iconst (v := 1) hx hb dX6_putPair_34 (by decide +kernel) ?_
  refine lv_iadd hx hb dX6_putPair_35 ?_
  refine k_int (v := 3) (by decide +kernel) ?_
  refine lv_iload_n hx hb dX6_putPair_36 rfl (lv_at hl 2 rfl) ?_
  refine lv_sipush (v := 255) hx hb dX6_putPair_37 (by decide +kernel) ?_
  refine lv_iand hx hb dX6_putPair_40 ?_
  refine k_int (v := 0) (by decide +kernel) ?_
  refine k_iast (g := (upd (upd (upd (upd (fun _ => (-1)) 0 0) 1 0) 2 0) 3 0)) (ws' := [(p0, .inr (6, [.ref (p1 0), .int 0, .ref (p1 1), .ref (p1 14), .ref (p1 27), .ref (p1 28), .ref (p1 29), .ref (p1 30), .ref (p1 54), .null, .int 1, .int 1, .int 999, .ref (p1 61), .ref (p1 62), .ref (p1 63), .ref (p1 60)])), ((p1 63), .inl (cI, 9, .inl (upd (upd (upd (upd (fun _ => (-1)) 0 0) 1 0) 2 0) 3 0)))]) hx hb hK hP hD hS 1 0 3 rfl rfl rfl (Nat.le_of_ble_eq_true rfl) (Nat.le_of_ble_eq_true rfl) rfl rfl dX6_putPair_41 (fun H locs hP hD hS => ?_)
  exact k_rv B hP hD hS dX6_putPair_42 () [0, 1] rfl rfl (Nat.le_of_ble_eq_true rfl) (Nat.le_of_ble_eq_true rfl) trivial
set_option maxHeartbeats 4000000 in
set_option maxRecDepth 100000 in
theorem c_X6_putPair_v2 (l : Launch) (dC : Nat → ClassId) (dI : Nat → Nat → Nat) (cI cJ cZ cM : ClassId) (p0 : Nat) (p1 : Nat → Nat)   : k_Mv l yX6_putPair wsX6_putPair ({ frames := 1, cells := 0, slots := 0, locals := 40 }) (dC, dI) vwCl (tyy cI cJ cZ cM) [(p0, .inr (6, [.ref (p1 0), .int 0, .ref (p1 1), .ref (p1 14), .ref (p1 27), .ref (p1 28), .ref (p1 29), .ref (p1 30), .ref (p1 54), .null, .int 1, .int 1, .int 999, .ref (p1 61), .ref (p1 62), .ref (p1 63), .ref (p1 60)])), ((p1 63), .inl (cI, 9, .inl (upd (upd (upd (upd (fun _ => (-1)) 0 0) 1 0) 2 0) 3 0)))] [.ref p0, .int 4, .int 0] 0 0 (fun (u9 : Unit) => [(p0, .inr (6, [.ref (p1 0), .int 0, .ref (p1 1), .ref (p1 14), .ref (p1 27), .ref (p1 28), .ref (p1 29), .ref (p1 30), .ref (p1 54), .null, .int 1, .int 1, .int 999, .ref (p1 61), .ref (p1 62), .ref (p1 63), .ref (p1 60)])), ((p1 63), .inl (cI, 9, .inl (upd (upd (upd (upd (upd (upd (fun _ => (-1)) 0 0) 1 0) 2 0) 3 0) 4 0) 5 0)))]) (fun (u9 : Unit) => True) := by
  refine fun sz => k_enter (cc := cX6_putPair) (maxL := 3) (ret := none) (Qc := fun A => va_Qv (fun (u9 : Unit) => True) (fun u => k_B (dC, dI) vwCl (tyy cI cJ cZ cM) A ((fun (u9 : Unit) => [(p0, .inr (6, [.ref (p1 0), .int 0, .ref (p1 1), .ref (p1 14), .ref (p1 27), .ref (p1 28), .ref (p1 29), .ref (p1 30), .ref (p1 54), .null, .int 1, .int 1, .int 999, .ref (p1 61), .ref (p1 62), .ref (p1 63), .ref (p1 60)])), ((p1 63), .inl (cI, 9, .inl (upd (upd (upd (upd (upd (upd (fun _ => (-1)) 0 0) 1 0) 2 0) 3 0) 4 0) 5 0)))]) u)) A) sz (by decide +kernel) rfl (Nat.le_of_ble_eq_true rfl) (fun p e s m args below meth c A ls H locs B hP hD hS hl => ?_)
  obtain ⟨hx, hb, hml, hown, hts, hr, hlk, hnm, hK, hA, hN, hC⟩ := id B
  have hown : s.vm.findClass RX6 = some m.cls := hown
  have hl : lv_has ls 3 [(0, .ref p0), (1, .int 4), (2, .int 0)] := hl
  have w_0 : (Cond.fieldLink RX6 75 "WishSea" "octets" "[I").before args s = true := hts _ (List.mem_of_getElem? (i := 1) rfl)
  have hinX6 : ∀ w ∈ u_ws RX6 TX6 17, w ∈ wsX6_putPair := fun _ h => List.mem_cons_of_mem _ (List.mem_append_right _ h)
  refine lv_iload_n hx hb dX6_putPair_0 rfl (lv_at hl 1 rfl) ?_
  refine lv_if_lt (tgt := 42) hx hb dX6_putPair_1 (by decide) (fun q9 => absurd q9 (by decide +kernel)) (fun _ => ?_)
  refine lv_iload_n hx hb dX6_putPair_4 rfl (lv_at hl 1 rfl) ?_
  refine lv_iconst (v := 1) hx hb dX6_putPair_5 (by decide +kernel) ?_
  refine lv_iadd hx hb dX6_putPair_6 ?_
  refine k_int (v := 5) (by decide +kernel) ?_
  refine lv_aload_n hx hb dX6_putPair_7 rfl (lv_at hl 0 rfl) ?_
  refine k_get (D := (dC, dI)) (ci := 6) (v := .ref (p1 63)) (C := RX6) (T := TX6) (N := 17) hx hb hts hinX6 hown hK hP 0 rfl rfl 15 (by decide) w_0 rfl rfl dX6_putPair_8 ?_
  refine va_alen (v := 9) hx hb hK hP 1 0 rfl rfl rfl dX6_putPair_11 ?_
  refine lv_icmp_ge (tgt := 42) hx hb dX6_putPair_12 (by decide) (fun q9 => absurd q9 (by decide +kernel)) (fun _ => ?_)
  refine lv_aload_n hx hb dX6_putPair_15 rfl (lv_at hl 0 rfl) ?_
  refine k_get (D := (dC, dI)) (ci := 6) (v := .ref (p1 63)) (C := RX6) (T := TX6) (N := 17) hx hb hts hinX6 hown hK hP 0 rfl rfl 15 (by decide) w_0 rfl rfl dX6_putPair_16 ?_
  refine lv_iload_n hx hb dX6_putPair_19 rfl (lv_at hl 1 rfl) ?_
  refine lv_iload_n hx hb dX6_putPair_20 rfl (lv_at hl 2 rfl) ?_
  refine lv_bipush (v := 8) hx hb dX6_putPair_21 (by decide +kernel) ?_
  refine lv_ishr hx hb dX6_putPair_23 ?_
  refine k_int (v := 0) (by decide +kernel) ?_
  refine lv_sipush (v := 255) hx hb dX6_putPair_24 (by decide +kernel) ?_
  refine lv_iand hx hb dX6_putPair_27 ?_
  refine k_int (v := 0) (by decide +kernel) ?_
  refine k_iast (g := (upd (upd (upd (upd (upd (fun _ => (-1)) 0 0) 1 0) 2 0) 3 0) 4 0)) (ws' := [(p0, .inr (6, [.ref (p1 0), .int 0, .ref (p1 1), .ref (p1 14), .ref (p1 27), .ref (p1 28), .ref (p1 29), .ref (p1 30), .ref (p1 54), .null, .int 1, .int 1, .int 999, .ref (p1 61), .ref (p1 62), .ref (p1 63), .ref (p1 60)])), ((p1 63), .inl (cI, 9, .inl (upd (upd (upd (upd (upd (fun _ => (-1)) 0 0) 1 0) 2 0) 3 0) 4 0)))]) hx hb hK hP hD hS 1 0 4 rfl rfl rfl (Nat.le_of_ble_eq_true rfl) (Nat.le_of_ble_eq_true rfl) rfl rfl dX6_putPair_28 (fun H locs hP hD hS => ?_)
  refine lv_aload_n hx hb dX6_putPair_29 rfl (lv_at hl 0 rfl) ?_
  refine k_get (D := (dC, dI)) (ci := 6) (v := .ref (p1 63)) (C := RX6) (T := TX6) (N := 17) hx hb hts hinX6 hown hK hP 0 rfl rfl 15 (by decide) w_0 rfl rfl dX6_putPair_30 ?_
  refine lv_iload_n hx hb dX6_putPair_33 rfl (lv_at hl 1 rfl) ?_
  refine lv_iconst (v := 1) hx hb dX6_putPair_34 (by decide +kernel) ?_
  refine lv_iadd hx hb dX6_putPair_35 ?_
  refine k_int (v := 5) (by decide +kernel) ?_
  refine lv_iload_n hx hb dX6_putPair_36 rfl (lv_at hl 2 rfl) ?_
  refine lv_sipush (v := 255) hx hb dX6_putPair_37 (by decide +kernel) ?_
  refine lv_iand hx hb dX6_putPair_40 ?_
  refine k_int (v := 0) (by decide +kernel) ?_
  refine k_iast (g := (upd (upd (upd (upd (upd (upd (fun _ => (-1)) 0 0) 1 0) 2 0) 3 0) 4 0) 5 0)) (ws' := [(p0, .inr (6, [.ref (p1 0), .int 0, .ref (p1 1), .ref (p1 14), .ref (p1 27), .ref (p1 28), .ref (p1 29), .ref (p1 30), .ref (p1 54), .null, .int 1, .int 1, .int 999, .ref (p1 61), .ref (p1 62), .ref (p1 63), .ref (p1 60)])), ((p1 63), .inl (cI, 9, .inl (upd (upd (upd (upd (upd (upd (fun _ => (-1)) 0 0) 1 0) 2 0) 3 0) 4 0) 5 0)))]) hx hb hK hP hD hS 1 0 5 rfl rfl rfl (Nat.le_of_ble_eq_true rfl) (Nat.le_of_ble_eq_true rfl) rfl rfl dX6_putPair_41 (fun H locs hP hD hS => ?_)
  exact k_rv B hP hD hS dX6_putPair_42 () [0, 1] rfl rfl (Nat.le_of_ble_eq_true rfl) (Nat.le_of_ble_eq_true rfl) trivial
set_option maxHeartbeats 4000000 in
set_option maxRecDepth 100000 in
theorem c_X6_putPair_v3 (l : Launch) (dC : Nat → ClassId) (dI : Nat → Nat → Nat) (cI cJ cZ cM : ClassId) (p0 : Nat) (p1 : Nat → Nat)   : k_Mv l yX6_putPair wsX6_putPair ({ frames := 1, cells := 0, slots := 0, locals := 40 }) (dC, dI) vwCl (tyy cI cJ cZ cM) [(p0, .inr (6, [.ref (p1 0), .int 0, .ref (p1 1), .ref (p1 14), .ref (p1 27), .ref (p1 28), .ref (p1 29), .ref (p1 30), .ref (p1 54), .null, .int 1, .int 1, .int 999, .ref (p1 61), .ref (p1 62), .ref (p1 63), .ref (p1 60)])), ((p1 63), .inl (cI, 9, .inl (upd (upd (upd (upd (upd (upd (fun _ => (-1)) 0 0) 1 0) 2 0) 3 0) 4 0) 5 0)))] [.ref p0, .int 6, .int 0] 0 0 (fun (u9 : Unit) => [(p0, .inr (6, [.ref (p1 0), .int 0, .ref (p1 1), .ref (p1 14), .ref (p1 27), .ref (p1 28), .ref (p1 29), .ref (p1 30), .ref (p1 54), .null, .int 1, .int 1, .int 999, .ref (p1 61), .ref (p1 62), .ref (p1 63), .ref (p1 60)])), ((p1 63), .inl (cI, 9, .inl (upd (upd (upd (upd (upd (upd (upd (upd (fun _ => (-1)) 0 0) 1 0) 2 0) 3 0) 4 0) 5 0) 6 0) 7 0)))]) (fun (u9 : Unit) => True) := by
  refine fun sz => k_enter (cc := cX6_putPair) (maxL := 3) (ret := none) (Qc := fun A => va_Qv (fun (u9 : Unit) => True) (fun u => k_B (dC, dI) vwCl (tyy cI cJ cZ cM) A ((fun (u9 : Unit) => [(p0, .inr (6, [.ref (p1 0), .int 0, .ref (p1 1), .ref (p1 14), .ref (p1 27), .ref (p1 28), .ref (p1 29), .ref (p1 30), .ref (p1 54), .null, .int 1, .int 1, .int 999, .ref (p1 61), .ref (p1 62), .ref (p1 63), .ref (p1 60)])), ((p1 63), .inl (cI, 9, .inl (upd (upd (upd (upd (upd (upd (upd (upd (fun _ => (-1)) 0 0) 1 0) 2 0) 3 0) 4 0) 5 0) 6 0) 7 0)))]) u)) A) sz (by decide +kernel) rfl (Nat.le_of_ble_eq_true rfl) (fun p e s m args below meth c A ls H locs B hP hD hS hl => ?_)
  obtain ⟨hx, hb, hml, hown, hts, hr, hlk, hnm, hK, hA, hN, hC⟩ := id B
  have hown : s.vm.findClass RX6 = some m.cls := hown
  have hl : lv_has ls 3 [(0, .ref p0), (1, .int 6), (2, .int 0)] := hl
  have w_0 : (Cond.fieldLink RX6 75 "WishSea" "octets" "[I").before args s = true := hts _ (List.mem_of_getElem? (i := 1) rfl)
  have hinX6 : ∀ w ∈ u_ws RX6 TX6 17, w ∈ wsX6_putPair := fun _ h => List.mem_cons_of_mem _ (List.mem_append_right _ h)
  refine lv_iload_n hx hb dX6_putPair_0 rfl (lv_at hl 1 rfl) ?_
  refine lv_if_lt (tgt := 42) hx hb dX6_putPair_1 (by decide) (fun q9 => absurd q9 (by decide +kernel)) (fun _ => ?_)
  refine lv_iload_n hx hb dX6_putPair_4 rfl (lv_at hl 1 rfl) ?_
  refine lv_iconst (v := 1) hx hb dX6_putPair_5 (by decide +kernel) ?_
  refine lv_iadd hx hb dX6_putPair_6 ?_
  refine k_int (v := 7) (by decide +kernel) ?_
  refine lv_aload_n hx hb dX6_putPair_7 rfl (lv_at hl 0 rfl) ?_
  refine k_get (D := (dC, dI)) (ci := 6) (v := .ref (p1 63)) (C := RX6) (T := TX6) (N := 17) hx hb hts hinX6 hown hK hP 0 rfl rfl 15 (by decide) w_0 rfl rfl dX6_putPair_8 ?_
  refine va_alen (v := 9) hx hb hK hP 1 0 rfl rfl rfl dX6_putPair_11 ?_
  refine lv_icmp_ge (tgt := 42) hx hb dX6_putPair_12 (by decide) (fun q9 => absurd q9 (by decide +kernel)) (fun _ => ?_)
  refine lv_aload_n hx hb dX6_putPair_15 rfl (lv_at hl 0 rfl) ?_
  refine k_get (D := (dC, dI)) (ci := 6) (v := .ref (p1 63)) (C := RX6) (T := TX6) (N := 17) hx hb hts hinX6 hown hK hP 0 rfl rfl 15 (by decide) w_0 rfl rfl dX6_putPair_16 ?_
  refine lv_iload_n hx hb dX6_putPair_19 rfl (lv_at hl 1 rfl) ?_
  refine lv_iload_n hx hb dX6_putPair_20 rfl (lv_at hl 2 rfl) ?_
  refine lv_bipush (v := 8) hx hb dX6_putPair_21 (by decide +kernel) ?_
  refine lv_ishr hx hb dX6_putPair_23 ?_
  refine k_int (v := 0) (by decide +kernel) ?_
  refine lv_sipush (v := 255) hx hb dX6_putPair_24 (by decide +kernel) ?_
  refine lv_iand hx hb dX6_putPair_27 ?_
  refine k_int (v := 0) (by decide +kernel) ?_
  refine k_iast (g := (upd (upd (upd (upd (upd (upd (upd (fun _ => (-1)) 0 0) 1 0) 2 0) 3 0) 4 0) 5 0) 6 0)) (ws' := [(p0, .inr (6, [.ref (p1 0), .int 0, .ref (p1 1), .ref (p1 14), .ref (p1 27), .ref (p1 28), .ref (p1 29), .ref (p1 30), .ref (p1 54), .null, .int 1, .int 1, .int 999, .ref (p1 61), .ref (p1 62), .ref (p1 63), .ref (p1 60)])), ((p1 63), .inl (cI, 9, .inl (upd (upd (upd (upd (upd (upd (upd (fun _ => (-1)) 0 0) 1 0) 2 0) 3 0) 4 0) 5 0) 6 0)))]) hx hb hK hP hD hS 1 0 6 rfl rfl rfl (Nat.le_of_ble_eq_true rfl) (Nat.le_of_ble_eq_true rfl) rfl rfl dX6_putPair_28 (fun H locs hP hD hS => ?_)
  refine lv_aload_n hx hb dX6_putPair_29 rfl (lv_at hl 0 rfl) ?_
  refine k_get (D := (dC, dI)) (ci := 6) (v := .ref (p1 63)) (C := RX6) (T := TX6) (N := 17) hx hb hts hinX6 hown hK hP 0 rfl rfl 15 (by decide) w_0 rfl rfl dX6_putPair_30 ?_
  refine lv_iload_n hx hb dX6_putPair_33 rfl (lv_at hl 1 rfl) ?_
  refine lv_iconst (v := 1) hx hb dX6_putPair_34 (by decide +kernel) ?_
  refine lv_iadd hx hb dX6_putPair_35 ?_
  refine k_int (v := 7) (by decide +kernel) ?_
  refine lv_iload_n hx hb dX6_putPair_36 rfl (lv_at hl 2 rfl) ?_
  refine lv_sipush (v := 255) hx hb dX6_putPair_37 (by decide +kernel) ?_
  refine lv_iand hx hb dX6_putPair_40 ?_
  refine k_int (v := 0) (by decide +kernel) ?_
  refine k_iast (g := (upd (upd (upd (upd (upd (upd (upd (upd (fun _ => (-1)) 0 0) 1 0) 2 0) 3 0) 4 0) 5 0) 6 0) 7 0)) (ws' := [(p0, .inr (6, [.ref (p1 0), .int 0, .ref (p1 1), .ref (p1 14), .ref (p1 27), .ref (p1 28), .ref (p1 29), .ref (p1 30), .ref (p1 54), .null, .int 1, .int 1, .int 999, .ref (p1 61), .ref (p1 62), .ref (p1 63), .ref (p1 60)])), ((p1 63), .inl (cI, 9, .inl (upd (upd (upd (upd (upd (upd (upd (upd (fun _ => (-1)) 0 0) 1 0) 2 0) 3 0) 4 0) 5 0) 6 0) 7 0)))]) hx hb hK hP hD hS 1 0 7 rfl rfl rfl (Nat.le_of_ble_eq_true rfl) (Nat.le_of_ble_eq_true rfl) rfl rfl dX6_putPair_41 (fun H locs hP hD hS => ?_)
  exact k_rv B hP hD hS dX6_putPair_42 () [0, 1] rfl rfl (Nat.le_of_ble_eq_true rfl) (Nat.le_of_ble_eq_true rfl) trivial
set_option maxHeartbeats 4000000 in
set_option maxRecDepth 100000 in
theorem c_X6_checkOf_v0 (l : Launch) (dC : Nat → ClassId) (dI : Nat → Nat → Nat) (cI cJ cZ cM : ClassId) (p0 : Nat → Nat)   : k_Mi l yX6_checkOf wsX6_checkOf ({ frames := 1, cells := 0, slots := 0, locals := 40 }) (dC, dI) vwCl (tyy cI cJ cZ cM) [((p0 63), .inl (cI, 9, .inl (upd (upd (upd (upd (upd (upd (upd (upd (fun _ => (-1)) 0 0) 1 0) 2 0) 3 0) 4 0) 5 0) 6 0) 7 0)))] [.ref (p0 63)] 0 0 (fun (u9 : Unit) => [((p0 63), .inl (cI, 9, .inl (upd (upd (upd (upd (upd (upd (upd (upd (fun _ => (-1)) 0 0) 1 0) 2 0) 3 0) 4 0) 5 0) 6 0) 7 0)))]) (fun (r9 : Int32) (u9 : Unit) => r9 = 167) := by
  refine fun sz => k_enter (cc := cX6_checkOf) (maxL := 3) (ret := some (.int)) (Qc := fun A => va_Qi (fun (r9 : Int32) (u9 : Unit) => r9 = 167) (fun u => k_B (dC, dI) vwCl (tyy cI cJ cZ cM) A ((fun (u9 : Unit) => [((p0 63), .inl (cI, 9, .inl (upd (upd (upd (upd (upd (upd (upd (upd (fun _ => (-1)) 0 0) 1 0) 2 0) 3 0) 4 0) 5 0) 6 0) 7 0)))]) u)) A) sz (by decide +kernel) rfl (Nat.le_of_ble_eq_true rfl) (fun p e s m args below meth c A ls H locs B hP hD hS hl => ?_)
  obtain ⟨hx, hb, hml, hown, hts, hr, hlk, hnm, hK, hA, hN, hC⟩ := id B
  have hown : s.vm.findClass RX6 = some m.cls := hown
  have hl : lv_has ls 3 [(0, .ref (p0 63))] := hl
  refine lv_bipush (v := 97) hx hb dX6_checkOf_0 (by decide +kernel) ?_
  refine lv_istore_n (lv' := [(1, .int 97), (0, .ref (p0 63))]) hx hb dX6_checkOf_2 rfl hl (by decide) rfl (fun ls hl => ?_)
  refine lv_iconst (v := 0) hx hb dX6_checkOf_3 (by decide +kernel) ?_
  refine lv_istore_n (lv' := [(2, .int 0), (1, .int 97), (0, .ref (p0 63))]) hx hb dX6_checkOf_4 rfl hl (by decide) rfl (fun ls hl => ?_)
  refine lv_iload_n hx hb dX6_checkOf_5 rfl (lv_at hl 0 rfl) ?_
  refine lv_bipush (v := 8) hx hb dX6_checkOf_6 (by decide +kernel) ?_
  refine lv_icmp_ge (tgt := 35) hx hb dX6_checkOf_8 (by decide) (fun q9 => absurd q9 (by decide +kernel)) (fun _ => ?_)
  refine lv_iload_n hx hb dX6_checkOf_11 rfl (lv_at hl 0 rfl) ?_
  refine lv_aload_n hx hb dX6_checkOf_12 rfl (lv_at hl 2 rfl) ?_
  refine va_alen (v := 9) hx hb hK hP 0 0 rfl rfl rfl dX6_checkOf_13 ?_
  refine lv_icmp_ge (tgt := 35) hx hb dX6_checkOf_14 (by decide) (fun q9 => absurd q9 (by decide +kernel)) (fun _ => ?_)
  refine lv_iconst (v := 5) hx hb dX6_checkOf_17 (by decide +kernel) ?_
  refine lv_iload_n hx hb dX6_checkOf_18 rfl (lv_at hl 1 rfl) ?_
  refine lv_imul hx hb dX6_checkOf_19 ?_
  refine k_int (v := 485) (by decide +kernel) ?_
  refine lv_aload_n hx hb dX6_checkOf_20 rfl (lv_at hl 2 rfl) ?_
  refine lv_iload_n hx hb dX6_checkOf_21 rfl (lv_at hl 0 rfl) ?_
  refine k_iald (v := 0) hx hb hK hP 0 0 0 rfl rfl rfl (Nat.le_of_ble_eq_true rfl) (Nat.le_of_ble_eq_true rfl) rfl dX6_checkOf_22 ?_
  refine lv_iadd hx hb dX6_checkOf_23 ?_
  refine k_int (v := 485) (by decide +kernel) ?_
  refine lv_sipush (v := 251) hx hb dX6_checkOf_24 (by decide +kernel) ?_
  refine lv_irem hx hb dX6_checkOf_27 (by decide +kernel) ?_
  refine k_int (v := 234) (by decide +kernel) ?_
  refine lv_istore_n (lv' := [(1, .int 234), (2, .int 0), (0, .ref (p0 63))]) hx hb dX6_checkOf_28 rfl hl (by decide) rfl (fun ls hl => ?_)
  refine lv_iinc (v := 1) (lv' := [(2, .int 1), (1, .int 234), (0, .ref (p0 63))]) hx hb dX6_checkOf_29 hl (k := 1) rfl (by decide +kernel) (by decide) rfl (fun ls hl => ?_)
  refine lv_goto (tgt := 5) hx hb dX6_checkOf_32 (by decide) ?_
  refine lv_iload_n hx hb dX6_checkOf_5 rfl (lv_at hl 0 rfl) ?_
  refine lv_bipush (v := 8) hx hb dX6_checkOf_6 (by decide +kernel) ?_
  refine lv_icmp_ge (tgt := 35) hx hb dX6_checkOf_8 (by decide) (fun q9 => absurd q9 (by decide +kernel)) (fun _ => ?_)
  refine lv_iload_n hx hb dX6_checkOf_11 rfl (lv_at hl 0 rfl) ?_
  refine lv_aload_n hx hb dX6_checkOf_12 rfl (lv_at hl 2 rfl) ?_
  refine va_alen (v := 9) hx hb hK hP 0 0 rfl rfl rfl dX6_checkOf_13 ?_
  refine lv_icmp_ge (tgt := 35) hx hb dX6_checkOf_14 (by decide) (fun q9 => absurd q9 (by decide +kernel)) (fun _ => ?_)
  refine lv_iconst (v := 5) hx hb dX6_checkOf_17 (by decide +kernel) ?_
  refine lv_iload_n hx hb dX6_checkOf_18 rfl (lv_at hl 1 rfl) ?_
  refine lv_imul hx hb dX6_checkOf_19 ?_
  refine k_int (v := 1170) (by decide +kernel) ?_
  refine lv_aload_n hx hb dX6_checkOf_20 rfl (lv_at hl 2 rfl) ?_
  refine lv_iload_n hx hb dX6_checkOf_21 rfl (lv_at hl 0 rfl) ?_
  refine k_iald (v := 0) hx hb hK hP 0 0 1 rfl rfl rfl (Nat.le_of_ble_eq_true rfl) (Nat.le_of_ble_eq_true rfl) rfl dX6_checkOf_22 ?_
  refine lv_iadd hx hb dX6_checkOf_23 ?_
  refine k_int (v := 1170) (by decide +kernel) ?_
  refine lv_sipush (v := 251) hx hb dX6_checkOf_24 (by decide +kernel) ?_
  refine lv_irem hx hb dX6_checkOf_27 (by decide +kernel) ?_
  refine k_int (v := 166) (by decide +kernel) ?_
  refine lv_istore_n (lv' := [(1, .int 166), (2, .int 1), (0, .ref (p0 63))]) hx hb dX6_checkOf_28 rfl hl (by decide) rfl (fun ls hl => ?_)
  refine lv_iinc (v := 2) (lv' := [(2, .int 2), (1, .int 166), (0, .ref (p0 63))]) hx hb dX6_checkOf_29 hl (k := 1) rfl (by decide +kernel) (by decide) rfl (fun ls hl => ?_)
  refine lv_goto (tgt := 5) hx hb dX6_checkOf_32 (by decide) ?_
  refine lv_iload_n hx hb dX6_checkOf_5 rfl (lv_at hl 0 rfl) ?_
  refine lv_bipush (v := 8) hx hb dX6_checkOf_6 (by decide +kernel) ?_
  refine lv_icmp_ge (tgt := 35) hx hb dX6_checkOf_8 (by decide) (fun q9 => absurd q9 (by decide +kernel)) (fun _ => ?_)
  refine lv_iload_n hx hb dX6_checkOf_11 rfl (lv_at hl 0 rfl) ?_
  refine lv_aload_n hx hb dX6_checkOf_12 rfl (lv_at hl 2 rfl) ?_
  refine va_alen (v := 9) hx hb hK hP 0 0 rfl rfl rfl dX6_checkOf_13 ?_
  refine lv_icmp_ge (tgt := 35) hx hb dX6_checkOf_14 (by decide) (fun q9 => absurd q9 (by decide +kernel)) (fun _ => ?_)
  refine lv_iconst (v := 5) hx hb dX6_checkOf_17 (by decide +kernel) ?_
  refine lv_iload_n hx hb dX6_checkOf_18 rfl (lv_at hl 1 rfl) ?_
  refine lv_imul hx hb dX6_checkOf_19 ?_
  refine k_int (v := 830) (by decide +kernel) ?_
  refine lv_aload_n hx hb dX6_checkOf_20 rfl (lv_at hl 2 rfl) ?_
  refine lv_iload_n hx hb dX6_checkOf_21 rfl (lv_at hl 0 rfl) ?_
  refine k_iald (v := 0) hx hb hK hP 0 0 2 rfl rfl rfl (Nat.le_of_ble_eq_true rfl) (Nat.le_of_ble_eq_true rfl) rfl dX6_checkOf_22 ?_
  refine lv_iadd hx hb dX6_checkOf_23 ?_
  refine k_int (v := 830) (by decide +kernel) ?_
  refine lv_sipush (v := 251) hx hb dX6_checkOf_24 (by decide +kernel) ?_
  refine lv_irem hx hb dX6_checkOf_27 (by decide +kernel) ?_
  refine k_int (v := 77) (by decide +kernel) ?_
  refine lv_istore_n (lv' := [(1, .int 77), (2, .int 2), (0, .ref (p0 63))]) hx hb dX6_checkOf_28 rfl hl (by decide) rfl (fun ls hl => ?_)
  refine lv_iinc (v := 3) (lv' := [(2, .int 3), (1, .int 77), (0, .ref (p0 63))]) hx hb dX6_checkOf_29 hl (k := 1) rfl (by decide +kernel) (by decide) rfl (fun ls hl => ?_)
  refine lv_goto (tgt := 5) hx hb dX6_checkOf_32 (by decide) ?_
  refine lv_iload_n hx hb dX6_checkOf_5 rfl (lv_at hl 0 rfl) ?_
  refine lv_bipush (v := 8) hx hb dX6_checkOf_6 (by decide +kernel) ?_
  refine lv_icmp_ge (tgt := 35) hx hb dX6_checkOf_8 (by decide) (fun q9 => absurd q9 (by decide +kernel)) (fun _ => ?_)
  refine lv_iload_n hx hb dX6_checkOf_11 rfl (lv_at hl 0 rfl) ?_
  refine lv_aload_n hx hb dX6_checkOf_12 rfl (lv_at hl 2 rfl) ?_
  refine va_alen (v := 9) hx hb hK hP 0 0 rfl rfl rfl dX6_checkOf_13 ?_
  refine lv_icmp_ge (tgt := 35) hx hb dX6_checkOf_14 (by decide) (fun q9 => absurd q9 (by decide +kernel)) (fun _ => ?_)
  refine lv_iconst (v := 5) hx hb dX6_checkOf_17 (by decide +kernel) ?_
  refine lv_iload_n hx hb dX6_checkOf_18 rfl (lv_at hl 1 rfl) ?_
  refine lv_imul hx hb dX6_checkOf_19 ?_
  refine k_int (v := 385) (by decide +kernel) ?_
  refine lv_aload_n hx hb dX6_checkOf_20 rfl (lv_at hl 2 rfl) ?_
  refine lv_iload_n hx hb dX6_checkOf_21 rfl (lv_at hl 0 rfl) ?_
  refine k_iald (v := 0) hx hb hK hP 0 0 3 rfl rfl rfl (Nat.le_of_ble_eq_true rfl) (Nat.le_of_ble_eq_true rfl) rfl dX6_checkOf_22 ?_
  refine lv_iadd hx hb dX6_checkOf_23 ?_
  refine k_int (v := 385) (by decide +kernel) ?_
  refine lv_sipush (v := 251) hx hb dX6_checkOf_24 (by decide +kernel) ?_
  refine lv_irem hx hb dX6_checkOf_27 (by decide +kernel) ?_
  refine k_int (v := 134) (by decide +kernel) ?_
  refine lv_istore_n (lv' := [(1, .int 134), (2, .int 3), (0, .ref (p0 63))]) hx hb dX6_checkOf_28 rfl hl (by decide) rfl (fun ls hl => ?_)
  refine lv_iinc (v := 4) (lv' := [(2, .int 4), (1, .int 134), (0, .ref (p0 63))]) hx hb dX6_checkOf_29 hl (k := 1) rfl (by decide +kernel) (by decide) rfl (fun ls hl => ?_)
  refine lv_goto (tgt := 5) hx hb dX6_checkOf_32 (by decide) ?_
  refine lv_iload_n hx hb dX6_checkOf_5 rfl (lv_at hl 0 rfl) ?_
  refine lv_bipush (v := 8) hx hb dX6_checkOf_6 (by decide +kernel) ?_
  refine lv_icmp_ge (tgt := 35) hx hb dX6_checkOf_8 (by decide) (fun q9 => absurd q9 (by decide +kernel)) (fun _ => ?_)
  refine lv_iload_n hx hb dX6_checkOf_11 rfl (lv_at hl 0 rfl) ?_
  refine lv_aload_n hx hb dX6_checkOf_12 rfl (lv_at hl 2 rfl) ?_
  refine va_alen (v := 9) hx hb hK hP 0 0 rfl rfl rfl dX6_checkOf_13 ?_
  refine lv_icmp_ge (tgt := 35) hx hb dX6_checkOf_14 (by decide) (fun q9 => absurd q9 (by decide +kernel)) (fun _ => ?_)
  refine lv_iconst (v := 5) hx hb dX6_checkOf_17 (by decide +kernel) ?_
  refine lv_iload_n hx hb dX6_checkOf_18 rfl (lv_at hl 1 rfl) ?_
  refine lv_imul hx hb dX6_checkOf_19 ?_
  refine k_int (v := 670) (by decide +kernel) ?_
  refine lv_aload_n hx hb dX6_checkOf_20 rfl (lv_at hl 2 rfl) ?_
  refine lv_iload_n hx hb dX6_checkOf_21 rfl (lv_at hl 0 rfl) ?_
  refine k_iald (v := 0) hx hb hK hP 0 0 4 rfl rfl rfl (Nat.le_of_ble_eq_true rfl) (Nat.le_of_ble_eq_true rfl) rfl dX6_checkOf_22 ?_
  refine lv_iadd hx hb dX6_checkOf_23 ?_
  refine k_int (v := 670) (by decide +kernel) ?_
  refine lv_sipush (v := 251) hx hb dX6_checkOf_24 (by decide +kernel) ?_
  refine lv_irem hx hb dX6_checkOf_27 (by decide +kernel) ?_
  refine k_int (v := 168) (by decide +kernel) ?_
  refine lv_istore_n (lv' := [(1, .int 168), (2, .int 4), (0, .ref (p0 63))]) hx hb dX6_checkOf_28 rfl hl (by decide) rfl (fun ls hl => ?_)
  refine lv_iinc (v := 5) (lv' := [(2, .int 5), (1, .int 168), (0, .ref (p0 63))]) hx hb dX6_checkOf_29 hl (k := 1) rfl (by decide +kernel) (by decide) rfl (fun ls hl => ?_)
  refine lv_goto (tgt := 5) hx hb dX6_checkOf_32 (by decide) ?_
  refine lv_iload_n hx hb dX6_checkOf_5 rfl (lv_at hl 0 rfl) ?_
  refine lv_bipush (v := 8) hx hb dX6_checkOf_6 (by decide +kernel) ?_
  refine lv_icmp_ge (tgt := 35) hx hb dX6_checkOf_8 (by decide) (fun q9 => absurd q9 (by decide +kernel)) (fun _ => ?_)
  refine lv_iload_n hx hb dX6_checkOf_11 rfl (lv_at hl 0 rfl) ?_
  refine lv_aload_n hx hb dX6_checkOf_12 rfl (lv_at hl 2 rfl) ?_
  refine va_alen (v := 9) hx hb hK hP 0 0 rfl rfl rfl dX6_checkOf_13 ?_
  refine lv_icmp_ge (tgt := 35) hx hb dX6_checkOf_14 (by decide) (fun q9 => absurd q9 (by decide +kernel)) (fun _ => ?_)
  refine lv_iconst (v := 5) hx hb dX6_checkOf_17 (by decide +kernel) ?_
  refine lv_iload_n hx hb dX6_checkOf_18 rfl (lv_at hl 1 rfl) ?_
  refine lv_imul hx hb dX6_checkOf_19 ?_
  refine k_int (v := 840) (by decide +kernel) ?_
  refine lv_aload_n hx hb dX6_checkOf_20 rfl (lv_at hl 2 rfl) ?_
  refine lv_iload_n hx hb dX6_checkOf_21 rfl (lv_at hl 0 rfl) ?_
  refine k_iald (v := 0) hx hb hK hP 0 0 5 rfl rfl rfl (Nat.le_of_ble_eq_true rfl) (Nat.le_of_ble_eq_true rfl) rfl dX6_checkOf_22 ?_
  refine lv_iadd hx hb dX6_checkOf_23 ?_
  refine k_int (v := 840) (by decide +kernel) ?_
  refine lv_sipush (v := 251) hx hb dX6_checkOf_24 (by decide +kernel) ?_
  refine lv_irem hx hb dX6_checkOf_27 (by decide +kernel) ?_
  refine k_int (v := 87) (by decide +kernel) ?_
  refine lv_istore_n (lv' := [(1, .int 87), (2, .int 5), (0, .ref (p0 63))]) hx hb dX6_checkOf_28 rfl hl (by decide) rfl (fun ls hl => ?_)
  refine lv_iinc (v := 6) (lv' := [(2, .int 6), (1, .int 87), (0, .ref (p0 63))]) hx hb dX6_checkOf_29 hl (k := 1) rfl (by decide +kernel) (by decide) rfl (fun ls hl => ?_)
  refine lv_goto (tgt := 5) hx hb dX6_checkOf_32 (by decide) ?_
  refine lv_iload_n hx hb dX6_checkOf_5 rfl (lv_at hl 0 rfl) ?_
  refine lv_bipush (v := 8) hx hb dX6_checkOf_6 (by decide +kernel) ?_
  refine lv_icmp_ge (tgt := 35) hx hb dX6_checkOf_8 (by decide) (fun q9 => absurd q9 (by decide +kernel)) (fun _ => ?_)
  refine lv_iload_n hx hb dX6_checkOf_11 rfl (lv_at hl 0 rfl) ?_
  refine lv_aload_n hx hb dX6_checkOf_12 rfl (lv_at hl 2 rfl) ?_
  refine va_alen (v := 9) hx hb hK hP 0 0 rfl rfl rfl dX6_checkOf_13 ?_
  refine lv_icmp_ge (tgt := 35) hx hb dX6_checkOf_14 (by decide) (fun q9 => absurd q9 (by decide +kernel)) (fun _ => ?_)
  refine lv_iconst (v := 5) hx hb dX6_checkOf_17 (by decide +kernel) ?_
  refine lv_iload_n hx hb dX6_checkOf_18 rfl (lv_at hl 1 rfl) ?_
  refine lv_imul hx hb dX6_checkOf_19 ?_
  refine k_int (v := 435) (by decide +kernel) ?_
  refine lv_aload_n hx hb dX6_checkOf_20 rfl (lv_at hl 2 rfl) ?_
  refine lv_iload_n hx hb dX6_checkOf_21 rfl (lv_at hl 0 rfl) ?_
  refine k_iald (v := 0) hx hb hK hP 0 0 6 rfl rfl rfl (Nat.le_of_ble_eq_true rfl) (Nat.le_of_ble_eq_true rfl) rfl dX6_checkOf_22 ?_
  refine lv_iadd hx hb dX6_checkOf_23 ?_
  refine k_int (v := 435) (by decide +kernel) ?_
  refine lv_sipush (v := 251) hx hb dX6_checkOf_24 (by decide +kernel) ?_
  refine lv_irem hx hb dX6_checkOf_27 (by decide +kernel) ?_
  refine k_int (v := 184) (by decide +kernel) ?_
  refine lv_istore_n (lv' := [(1, .int 184), (2, .int 6), (0, .ref (p0 63))]) hx hb dX6_checkOf_28 rfl hl (by decide) rfl (fun ls hl => ?_)
  refine lv_iinc (v := 7) (lv' := [(2, .int 7), (1, .int 184), (0, .ref (p0 63))]) hx hb dX6_checkOf_29 hl (k := 1) rfl (by decide +kernel) (by decide) rfl (fun ls hl => ?_)
  refine lv_goto (tgt := 5) hx hb dX6_checkOf_32 (by decide) ?_
  refine lv_iload_n hx hb dX6_checkOf_5 rfl (lv_at hl 0 rfl) ?_
  refine lv_bipush (v := 8) hx hb dX6_checkOf_6 (by decide +kernel) ?_
  refine lv_icmp_ge (tgt := 35) hx hb dX6_checkOf_8 (by decide) (fun q9 => absurd q9 (by decide +kernel)) (fun _ => ?_)
  refine lv_iload_n hx hb dX6_checkOf_11 rfl (lv_at hl 0 rfl) ?_
  refine lv_aload_n hx hb dX6_checkOf_12 rfl (lv_at hl 2 rfl) ?_
  refine va_alen (v := 9) hx hb hK hP 0 0 rfl rfl rfl dX6_checkOf_13 ?_
  refine lv_icmp_ge (tgt := 35) hx hb dX6_checkOf_14 (by decide) (fun q9 => absurd q9 (by decide +kernel)) (fun _ => ?_)
  refine lv_iconst (v := 5) hx hb dX6_checkOf_17 (by decide +kernel) ?_
  refine lv_iload_n hx hb dX6_checkOf_18 rfl (lv_at hl 1 rfl) ?_
  refine lv_imul hx hb dX6_checkOf_19 ?_
  refine k_int (v := 920) (by decide +kernel) ?_
  refine lv_aload_n hx hb dX6_checkOf_20 rfl (lv_at hl 2 rfl) ?_
  refine lv_iload_n hx hb dX6_checkOf_21 rfl (lv_at hl 0 rfl) ?_
  refine k_iald (v := 0) hx hb hK hP 0 0 7 rfl rfl rfl (Nat.le_of_ble_eq_true rfl) (Nat.le_of_ble_eq_true rfl) rfl dX6_checkOf_22 ?_
  refine lv_iadd hx hb dX6_checkOf_23 ?_
  refine k_int (v := 920) (by decide +kernel) ?_
  refine lv_sipush (v := 251) hx hb dX6_checkOf_24 (by decide +kernel) ?_
  refine lv_irem hx hb dX6_checkOf_27 (by decide +kernel) ?_
  refine k_int (v := 167) (by decide +kernel) ?_
  refine lv_istore_n (lv' := [(1, .int 167), (2, .int 7), (0, .ref (p0 63))]) hx hb dX6_checkOf_28 rfl hl (by decide) rfl (fun ls hl => ?_)
  refine lv_iinc (v := 8) (lv' := [(2, .int 8), (1, .int 167), (0, .ref (p0 63))]) hx hb dX6_checkOf_29 hl (k := 1) rfl (by decide +kernel) (by decide) rfl (fun ls hl => ?_)
  refine lv_goto (tgt := 5) hx hb dX6_checkOf_32 (by decide) ?_
  refine lv_iload_n hx hb dX6_checkOf_5 rfl (lv_at hl 0 rfl) ?_
  refine lv_bipush (v := 8) hx hb dX6_checkOf_6 (by decide +kernel) ?_
  refine lv_icmp_ge (tgt := 35) hx hb dX6_checkOf_8 (by decide) (fun _ => ?_) (fun q9 => absurd q9 (by decide +kernel))
  refine lv_iload_n hx hb dX6_checkOf_35 rfl (lv_at hl 1 rfl) ?_
  exact k_ri B hP hD hS dX6_checkOf_36 () [0] rfl rfl rfl (Nat.le_of_ble_eq_true rfl) (Nat.le_of_ble_eq_true rfl) rfl
set_option maxHeartbeats 4000000 in
set_option maxRecDepth 100000 in
theorem c_X6_image_v0 (l : Launch) (dC : Nat → ClassId) (dI : Nat → Nat → Nat) (cI cJ cZ cM : ClassId) (p0 : Nat) (p1 : Nat → Nat)   : k_Mi l yX6_image wsX6_image ({ frames := 2, cells := 0, slots := 0, locals := 62 }) (dC, dI) vwCl (tyy cI cJ cZ cM) [(p0, .inr (6, [.ref (p1 0), .int 0, .ref (p1 1), .ref (p1 14), .ref (p1 27), .ref (p1 28), .ref (p1 29), .ref (p1 30), .ref (p1 54), .null, .int 1, .int 1, .int 999, .ref (p1 61), .ref (p1 62), .ref (p1 63), .ref (p1 60)])), ((p1 28), .inr (0, [.int 0, .int 0, .int 0, .int 0])), ((p1 63), .inl (cI, 9, .inl (fun _ => (-1))))] [.ref p0] 0 0 (fun (u9 : Unit) => [(p0, .inr (6, [.ref (p1 0), .int 0, .ref (p1 1), .ref (p1 14), .ref (p1 27), .ref (p1 28), .ref (p1 29), .ref (p1 30), .ref (p1 54), .null, .int 1, .int 1, .int 999, .ref (p1 61), .ref (p1 62), .ref (p1 63), .ref (p1 60)])), ((p1 28), .inr (0, [.int 0, .int 0, .int 0, .int 0])), ((p1 63), .inl (cI, 9, .inl (upd (upd (upd (upd (upd (upd (upd (upd (upd (fun _ => (-1)) 0 0) 1 0) 2 0) 3 0) 4 0) 5 0) 6 0) 7 0) 8 167)))]) (fun (r9 : Int32) (u9 : Unit) => r9 = 9) := by
  refine fun sz => k_enter (cc := cX6_image) (maxL := 1) (ret := some (.int)) (Qc := fun A => va_Qi (fun (r9 : Int32) (u9 : Unit) => r9 = 9) (fun u => k_B (dC, dI) vwCl (tyy cI cJ cZ cM) A ((fun (u9 : Unit) => [(p0, .inr (6, [.ref (p1 0), .int 0, .ref (p1 1), .ref (p1 14), .ref (p1 27), .ref (p1 28), .ref (p1 29), .ref (p1 30), .ref (p1 54), .null, .int 1, .int 1, .int 999, .ref (p1 61), .ref (p1 62), .ref (p1 63), .ref (p1 60)])), ((p1 28), .inr (0, [.int 0, .int 0, .int 0, .int 0])), ((p1 63), .inl (cI, 9, .inl (upd (upd (upd (upd (upd (upd (upd (upd (upd (fun _ => (-1)) 0 0) 1 0) 2 0) 3 0) 4 0) 5 0) 6 0) 7 0) 8 167)))]) u)) A) sz (by decide +kernel) rfl (Nat.le_of_ble_eq_true rfl) (fun p e s m args below meth c A ls H locs B hP hD hS hl => ?_)
  obtain ⟨hx, hb, hml, hown, hts, hr, hlk, hnm, hK, hA, hN, hC⟩ := id B
  have hown : s.vm.findClass RX6 = some m.cls := hown
  have hl : lv_has ls 1 [(0, .ref p0)] := hl
  have w_0 : (Cond.fieldLink RX6 35 "WishSea" "now" "LWishSea$Moment;").before args s = true := hts _ (List.mem_of_getElem? (i := 1) rfl)
  have w_1 : (Cond.fieldLink RX6 146 "WishSea$Moment" "day" "I").before args s = true := hts _ (List.mem_of_getElem? (i := 2) rfl)
  have w_2 : (Cond.fieldLink RX6 143 "WishSea$Moment" "said" "I").before args s = true := hts _ (List.mem_of_getElem? (i := 3) rfl)
  have w_3 : (Cond.fieldLink RX6 140 "WishSea$Moment" "sea" "I").before args s = true := hts _ (List.mem_of_getElem? (i := 4) rfl)
  have w_4 : (Cond.fieldLink RX6 136 "WishSea$Moment" "things" "I").before args s = true := hts _ (List.mem_of_getElem? (i := 5) rfl)
  have w_5 : (Cond.fieldLink RX6 75 "WishSea" "octets" "[I").before args s = true := hts _ (List.mem_of_getElem? (i := 6) rfl)
  have hinX6 : ∀ w ∈ u_ws RX6 TX6 17, w ∈ wsX6_image := fun _ h => List.mem_cons_of_mem _ (List.mem_append_left _ (List.mem_append_right _ h))
  have hinX0 : ∀ w ∈ u_ws RX0 TX0 4, w ∈ wsX6_image := fun _ h => List.mem_cons_of_mem _ (List.mem_append_right _ h)
  refine lv_aload_n hx hb dX6_image_0 rfl (lv_at hl 0 rfl) ?_
  refine lv_iconst (v := 0) hx hb dX6_image_1 (by decide +kernel) ?_
  refine lv_aload_n hx hb dX6_image_2 rfl (lv_at hl 0 rfl) ?_
  refine k_get (D := (dC, dI)) (ci := 6) (v := .ref (p1 28)) (C := RX6) (T := TX6) (N := 17) hx hb hts hinX6 hown hK hP 0 rfl rfl 5 (by decide) w_0 rfl rfl dX6_image_3 ?_
  refine k_get (D := (dC, dI)) (ci := 0) (v := .int 0) (C := RX0) (T := TX0) (N := 4) hx hb hts hinX0 hown hK hP 1 rfl rfl 3 (by decide) w_1 rfl rfl dX6_image_6 ?_
  refine k_cv (wc := [(p0, .inr (6, [.ref (p1 0), .int 0, .ref (p1 1), .ref (p1 14), .ref (p1 27), .ref (p1 28), .ref (p1 29), .ref (p1 30), .ref (p1 54), .null, .int 1, .int 1, .int 999, .ref (p1 61), .ref (p1 62), .ref (p1 63), .ref (p1 60)])), ((p1 63), .inl (cI, 9, .inl (fun _ => (-1))))]) (wr := [((p1 28), .inr (0, [.int 0, .int 0, .int 0, .int 0]))]) (fun hPc hDc hFc => va_runV (As := [.int 0, .int 0]) (rest := []) ⟨hx, hb, hml, hown, hts⟩ (c_X6_putPair_v0 l dC dI cI cJ cZ cM p0 p1 H.size) (cwV 2 hts gX6_image_X6_putPair rfl rfl rfl (by decide +kernel) ⟨(Nat.le_of_ble_eq_true rfl), (Nat.le_of_ble_eq_true rfl)⟩) (k_pV hPc hDc hK hN hC hS hFc hP (q0 := 0) (ci := 6) rfl rfl) rfl rfl hl.1 rfl (lv_room (Nat.le_of_ble_eq_true rfl)) dX6_image_9 ⟨(Nat.le_of_ble_eq_true rfl), (Nat.le_of_ble_eq_true rfl)⟩) hP hD hS hA [0, 2] [1] rfl rfl rfl rfl (by decide) (fun _ => rfl) 0 0 rfl rfl (fun u_2 H locs hw hP hD hS => ?_)
  have hP : va_P (dC, dI) vwCl [((p1 28), .inr (0, [.int 0, .int 0, .int 0, .int 0])), (p0, .inr (6, [.ref (p1 0), .int 0, .ref (p1 1), .ref (p1 14), .ref (p1 27), .ref (p1 28), .ref (p1 29), .ref (p1 30), .ref (p1 54), .null, .int 1, .int 1, .int 999, .ref (p1 61), .ref (p1 62), .ref (p1 63), .ref (p1 60)])), ((p1 63), .inl (cI, 9, .inl (upd (upd (fun _ => (-1)) 0 0) 1 0)))] H := hP
  have hD : va_D A [((p1 28), .inr (0, [.int 0, .int 0, .int 0, .int 0])), (p0, .inr (6, [.ref (p1 0), .int 0, .ref (p1 1), .ref (p1 14), .ref (p1 27), .ref (p1 28), .ref (p1 29), .ref (p1 30), .ref (p1 54), .null, .int 1, .int 1, .int 999, .ref (p1 61), .ref (p1 62), .ref (p1 63), .ref (p1 60)])), ((p1 63), .inl (cI, 9, .inl (upd (upd (fun _ => (-1)) 0 0) 1 0)))] := hD
  refine lv_aload_n hx hb dX6_image_12 rfl (lv_at hl 0 rfl) ?_
  refine lv_iconst (v := 2) hx hb dX6_image_13 (by decide +kernel) ?_
  refine lv_aload_n hx hb dX6_image_14 rfl (lv_at hl 0 rfl) ?_
  refine k_get (D := (dC, dI)) (ci := 6) (v := .ref (p1 28)) (C := RX6) (T := TX6) (N := 17) hx hb hts hinX6 hown hK hP 1 rfl rfl 5 (by decide) w_0 rfl rfl dX6_image_15 ?_
  refine k_get (D := (dC, dI)) (ci := 0) (v := .int 0) (C := RX0) (T := TX0) (N := 4) hx hb hts hinX0 hown hK hP 0 rfl rfl 2 (by decide) w_2 rfl rfl dX6_image_18 ?_
  refine k_cv (wc := [(p0, .inr (6, [.ref (p1 0), .int 0, .ref (p1 1), .ref (p1 14), .ref (p1 27), .ref (p1 28), .ref (p1 29), .ref (p1 30), .ref (p1 54), .null, .int 1, .int 1, .int 999, .ref (p1 61), .ref (p1 62), .ref (p1 63), .ref (p1 60)])), ((p1 63), .inl (cI, 9, .inl (upd (upd (fun _ => (-1)) 0 0) 1 0)))]) (wr := [((p1 28), .inr (0, [.int 0, .int 0, .int 0, .int 0]))]) (fun hPc hDc hFc => va_runV (As := [.int 2, .int 0]) (rest := []) ⟨hx, hb, hml, hown, hts⟩ (c_X6_putPair_v1 l dC dI cI cJ cZ cM p0 p1 H.size) (cwV 2 hts gX6_image_X6_putPair rfl rfl rfl (by decide +kernel) ⟨(Nat.le_of_ble_eq_true rfl), (Nat.le_of_ble_eq_true rfl)⟩) (k_pV hPc hDc hK hN hC hS hFc hP (q0 := 1) (ci := 6) rfl rfl) rfl rfl hl.1 rfl (lv_room (Nat.le_of_ble_eq_true rfl)) dX6_image_21 ⟨(Nat.le_of_ble_eq_true rfl), (Nat.le_of_ble_eq_true rfl)⟩) hP hD hS hA [1, 2] [0] rfl rfl rfl rfl (by decide) (fun _ => rfl) 0 0 rfl rfl (fun u_4 H locs hw hP hD hS => ?_)
  have hP : va_P (dC, dI) vwCl [((p1 28), .inr (0, [.int 0, .int 0, .int 0, .int 0])), (p0, .inr (6, [.ref (p1 0), .int 0, .ref (p1 1), .ref (p1 14), .ref (p1 27), .ref (p1 28), .ref (p1 29), .ref (p1 30), .ref (p1 54), .null, .int 1, .int 1, .int 999, .ref (p1 61), .ref (p1 62), .ref (p1 63), .ref (p1 60)])), ((p1 63), .inl (cI, 9, .inl (upd (upd (upd (upd (fun _ => (-1)) 0 0) 1 0) 2 0) 3 0)))] H := hP
  have hD : va_D A [((p1 28), .inr (0, [.int 0, .int 0, .int 0, .int 0])), (p0, .inr (6, [.ref (p1 0), .int 0, .ref (p1 1), .ref (p1 14), .ref (p1 27), .ref (p1 28), .ref (p1 29), .ref (p1 30), .ref (p1 54), .null, .int 1, .int 1, .int 999, .ref (p1 61), .ref (p1 62), .ref (p1 63), .ref (p1 60)])), ((p1 63), .inl (cI, 9, .inl (upd (upd (upd (upd (fun _ => (-1)) 0 0) 1 0) 2 0) 3 0)))] := hD
  refine lv_aload_n hx hb dX6_image_24 rfl (lv_at hl 0 rfl) ?_
  refine lv_iconst (v := 4) hx hb dX6_image_25 (by decide +kernel) ?_
  refine lv_aload_n hx hb dX6_image_26 rfl (lv_at hl 0 rfl) ?_
  refine k_get (D := (dC, dI)) (ci := 6) (v := .ref (p1 28)) (C := RX6) (T := TX6) (N := 17) hx hb hts hinX6 hown hK hP 1 rfl rfl 5 (by decide) w_0 rfl rfl dX6_image_27 ?_
  refine k_get (D := (dC, dI)) (ci := 0) (v := .int 0) (C := RX0) (T := TX0) (N := 4) hx hb hts hinX0 hown hK hP 0 rfl rfl 1 (by decide) w_3 rfl rfl dX6_image_30 ?_
  refine k_cv (wc := [(p0, .inr (6, [.ref (p1 0), .int 0, .ref (p1 1), .ref (p1 14), .ref (p1 27), .ref (p1 28), .ref (p1 29), .ref (p1 30), .ref (p1 54), .null, .int 1, .int 1, .int 999, .ref (p1 61), .ref (p1 62), .ref (p1 63), .ref (p1 60)])), ((p1 63), .inl (cI, 9, .inl (upd (upd (upd (upd (fun _ => (-1)) 0 0) 1 0) 2 0) 3 0)))]) (wr := [((p1 28), .inr (0, [.int 0, .int 0, .int 0, .int 0]))]) (fun hPc hDc hFc => va_runV (As := [.int 4, .int 0]) (rest := []) ⟨hx, hb, hml, hown, hts⟩ (c_X6_putPair_v2 l dC dI cI cJ cZ cM p0 p1 H.size) (cwV 2 hts gX6_image_X6_putPair rfl rfl rfl (by decide +kernel) ⟨(Nat.le_of_ble_eq_true rfl), (Nat.le_of_ble_eq_true rfl)⟩) (k_pV hPc hDc hK hN hC hS hFc hP (q0 := 1) (ci := 6) rfl rfl) rfl rfl hl.1 rfl (lv_room (Nat.le_of_ble_eq_true rfl)) dX6_image_33 ⟨(Nat.le_of_ble_eq_true rfl), (Nat.le_of_ble_eq_true rfl)⟩) hP hD hS hA [1, 2] [0] rfl rfl rfl rfl (by decide) (fun _ => rfl) 0 0 rfl rfl (fun u_6 H locs hw hP hD hS => ?_)
  have hP : va_P (dC, dI) vwCl [((p1 28), .inr (0, [.int 0, .int 0, .int 0, .int 0])), (p0, .inr (6, [.ref (p1 0), .int 0, .ref (p1 1), .ref (p1 14), .ref (p1 27), .ref (p1 28), .ref (p1 29), .ref (p1 30), .ref (p1 54), .null, .int 1, .int 1, .int 999, .ref (p1 61), .ref (p1 62), .ref (p1 63), .ref (p1 60)])), ((p1 63), .inl (cI, 9, .inl (upd (upd (upd (upd (upd (upd (fun _ => (-1)) 0 0) 1 0) 2 0) 3 0) 4 0) 5 0)))] H := hP
  have hD : va_D A [((p1 28), .inr (0, [.int 0, .int 0, .int 0, .int 0])), (p0, .inr (6, [.ref (p1 0), .int 0, .ref (p1 1), .ref (p1 14), .ref (p1 27), .ref (p1 28), .ref (p1 29), .ref (p1 30), .ref (p1 54), .null, .int 1, .int 1, .int 999, .ref (p1 61), .ref (p1 62), .ref (p1 63), .ref (p1 60)])), ((p1 63), .inl (cI, 9, .inl (upd (upd (upd (upd (upd (upd (fun _ => (-1)) 0 0) 1 0) 2 0) 3 0) 4 0) 5 0)))] := hD
  refine lv_aload_n hx hb dX6_image_36 rfl (lv_at hl 0 rfl) ?_
  refine lv_bipush (v := 6) hx hb dX6_image_37 (by decide +kernel) ?_
  refine lv_aload_n hx hb dX6_image_39 rfl (lv_at hl 0 rfl) ?_
  refine k_get (D := (dC, dI)) (ci := 6) (v := .ref (p1 28)) (C := RX6) (T := TX6) (N := 17) hx hb hts hinX6 hown hK hP 1 rfl rfl 5 (by decide) w_0 rfl rfl dX6_image_40 ?_
  refine k_get (D := (dC, dI)) (ci := 0) (v := .int 0) (C := RX0) (T := TX0) (N := 4) hx hb hts hinX0 hown hK hP 0 rfl rfl 0 (by decide) w_4 rfl rfl dX6_image_43 ?_
  refine k_cv (wc := [(p0, .inr (6, [.ref (p1 0), .int 0, .ref (p1 1), .ref (p1 14), .ref (p1 27), .ref (p1 28), .ref (p1 29), .ref (p1 30), .ref (p1 54), .null, .int 1, .int 1, .int 999, .ref (p1 61), .ref (p1 62), .ref (p1 63), .ref (p1 60)])), ((p1 63), .inl (cI, 9, .inl (upd (upd (upd (upd (upd (upd (fun _ => (-1)) 0 0) 1 0) 2 0) 3 0) 4 0) 5 0)))]) (wr := [((p1 28), .inr (0, [.int 0, .int 0, .int 0, .int 0]))]) (fun hPc hDc hFc => va_runV (As := [.int 6, .int 0]) (rest := []) ⟨hx, hb, hml, hown, hts⟩ (c_X6_putPair_v3 l dC dI cI cJ cZ cM p0 p1 H.size) (cwV 2 hts gX6_image_X6_putPair rfl rfl rfl (by decide +kernel) ⟨(Nat.le_of_ble_eq_true rfl), (Nat.le_of_ble_eq_true rfl)⟩) (k_pV hPc hDc hK hN hC hS hFc hP (q0 := 1) (ci := 6) rfl rfl) rfl rfl hl.1 rfl (lv_room (Nat.le_of_ble_eq_true rfl)) dX6_image_46 ⟨(Nat.le_of_ble_eq_true rfl), (Nat.le_of_ble_eq_true rfl)⟩) hP hD hS hA [1, 2] [0] rfl rfl rfl rfl (by decide) (fun _ => rfl) 0 0 rfl rfl (fun u_8 H locs hw hP hD hS => ?_)
  have hP : va_P (dC, dI) vwCl [((p1 28), .inr (0, [.int 0, .int 0, .int 0, .int 0])), (p0, .inr (6, [.ref (p1 0), .int 0, .ref (p1 1), .ref (p1 14), .ref (p1 27), .ref (p1 28), .ref (p1 29), .ref (p1 30), .ref (p1 54), .null, .int 1, .int 1, .int 999, .ref (p1 61), .ref (p1 62), .ref (p1 63), .ref (p1 60)])), ((p1 63), .inl (cI, 9, .inl (upd (upd (upd (upd (upd (upd (upd (upd (fun _ => (-1)) 0 0) 1 0) 2 0) 3 0) 4 0) 5 0) 6 0) 7 0)))] H := hP
  have hD : va_D A [((p1 28), .inr (0, [.int 0, .int 0, .int 0, .int 0])), (p0, .inr (6, [.ref (p1 0), .int 0, .ref (p1 1), .ref (p1 14), .ref (p1 27), .ref (p1 28), .ref (p1 29), .ref (p1 30), .ref (p1 54), .null, .int 1, .int 1, .int 999, .ref (p1 61), .ref (p1 62), .ref (p1 63), .ref (p1 60)])), ((p1 63), .inl (cI, 9, .inl (upd (upd (upd (upd (upd (upd (upd (upd (fun _ => (-1)) 0 0) 1 0) 2 0) 3 0) 4 0) 5 0) 6 0) 7 0)))] := hD
  refine lv_aload_n hx hb dX6_image_49 rfl (lv_at hl 0 rfl) ?_
  refine k_get (D := (dC, dI)) (ci := 6) (v := .ref (p1 63)) (C := RX6) (T := TX6) (N := 17) hx hb hts hinX6 hown hK hP 1 rfl rfl 15 (by decide) w_5 rfl rfl dX6_image_50 ?_
  refine lv_bipush (v := 8) hx hb dX6_image_53 (by decide +kernel) ?_
  refine lv_aload_n hx hb dX6_image_55 rfl (lv_at hl 0 rfl) ?_
  refine k_get (D := (dC, dI)) (ci := 6) (v := .ref (p1 63)) (C := RX6) (T := TX6) (N := 17) hx hb hts hinX6 hown hK hP 1 rfl rfl 15 (by decide) w_5 rfl rfl dX6_image_56 ?_
  refine k_ci (wc := [((p1 63), .inl (cI, 9, .inl (upd (upd (upd (upd (upd (upd (upd (upd (fun _ => (-1)) 0 0) 1 0) 2 0) 3 0) 4 0) 5 0) 6 0) 7 0)))]) (wr := [((p1 28), .inr (0, [.int 0, .int 0, .int 0, .int 0])), (p0, .inr (6, [.ref (p1 0), .int 0, .ref (p1 1), .ref (p1 14), .ref (p1 27), .ref (p1 28), .ref (p1 29), .ref (p1 30), .ref (p1 54), .null, .int 1, .int 1, .int 999, .ref (p1 61), .ref (p1 62), .ref (p1 63), .ref (p1 60)]))]) (fun hPc hDc hFc => va_runS (As := [.ref (p1 63)]) (rest := [.int 8, .ref (p1 63)]) ⟨hx, hb, hml, hown, hts⟩ (c_X6_checkOf_v0 l dC dI cI cJ cZ cM p1 H.size) (va_cwS 1 hts gX6_image_X6_checkOf rfl rfl rfl (by decide +kernel) ⟨(Nat.le_of_ble_eq_true rfl), (Nat.le_of_ble_eq_true rfl)⟩) (k_pS hPc hDc hK hN hC hS hFc) rfl rfl hl.1 rfl (lv_room (Nat.le_of_ble_eq_true rfl)) dX6_image_59 ⟨(Nat.le_of_ble_eq_true rfl), (Nat.le_of_ble_eq_true rfl)⟩) hP hD hS hA [2] [0, 1] rfl rfl rfl rfl (by decide) (fun _ => rfl) 0 0 rfl rfl (fun r_9 u_10 H locs hw hP hD hS => ?_)
  obtain rfl : r_9 = 167 := hw
  have hP : va_P (dC, dI) vwCl [((p1 28), .inr (0, [.int 0, .int 0, .int 0, .int 0])), (p0, .inr (6, [.ref (p1 0), .int 0, .ref (p1 1), .ref (p1 14), .ref (p1 27), .ref (p1 28), .ref (p1 29), .ref (p1 30), .ref (p1 54), .null, .int 1, .int 1, .int 999, .ref (p1 61), .ref (p1 62), .ref (p1 63), .ref (p1 60)])), ((p1 63), .inl (cI, 9, .inl (upd (upd (upd (upd (upd (upd (upd (upd (fun _ => (-1)) 0 0) 1 0) 2 0) 3 0) 4 0) 5 0) 6 0) 7 0)))] H := hP
  have hD : va_D A [((p1 28), .inr (0, [.int 0, .int 0, .int 0, .int 0])), (p0, .inr (6, [.ref (p1 0), .int 0, .ref (p1 1), .ref (p1 14), .ref (p1 27), .ref (p1 28), .ref (p1 29), .ref (p1 30), .ref (p1 54), .null, .int 1, .int 1, .int 999, .ref (p1 61), .ref (p1 62), .ref (p1 63), .ref (p1 60)])), ((p1 63), .inl (cI, 9, .inl (upd (upd (upd (upd (upd (upd (upd (upd (fun _ => (-1)) 0 0) 1 0) 2 0) 3 0) 4 0) 5 0) 6 0) 7 0)))] := hD
  refine k_iast (g := (upd (upd (upd (upd (upd (upd (upd (upd (upd (fun _ => (-1)) 0 0) 1 0) 2 0) 3 0) 4 0) 5 0) 6 0) 7 0) 8 167)) (ws' := [((p1 28), .inr (0, [.int 0, .int 0, .int 0, .int 0])), (p0, .inr (6, [.ref (p1 0), .int 0, .ref (p1 1), .ref (p1 14), .ref (p1 27), .ref (p1 28), .ref (p1 29), .ref (p1 30), .ref (p1 54), .null, .int 1, .int 1, .int 999, .ref (p1 61), .ref (p1 62), .ref (p1 63), .ref (p1 60)])), ((p1 63), .inl (cI, 9, .inl (upd (upd (upd (upd (upd (upd (upd (upd (upd (fun _ => (-1)) 0 0) 1 0) 2 0) 3 0) 4 0) 5 0) 6 0) 7 0) 8 167)))]) hx hb hK hP hD hS 2 0 8 rfl rfl rfl (Nat.le_of_ble_eq_true rfl) (Nat.le_of_ble_eq_true rfl) rfl rfl dX6_image_62 (fun H locs hP hD hS => ?_)
  refine lv_bipush (v := 9) hx hb dX6_image_63 (by decide +kernel) ?_
  exact k_ri B hP hD hS dX6_image_65 () [1, 0, 2] rfl rfl rfl (Nat.le_of_ble_eq_true rfl) (Nat.le_of_ble_eq_true rfl) rfl
set_option maxHeartbeats 4000000 in
set_option maxRecDepth 100000 in
theorem c_X7_writes_v0 (l : Launch) (dC : Nat → ClassId) (dI : Nat → Nat → Nat) (cI cJ cZ cM : ClassId) (p0 : Nat) (p1 : Nat → Nat)   : k_Mv l yX7_writes wsX7_writes ({ frames := 1, cells := 0, slots := 0, locals := 40 }) (dC, dI) vwCl (tyy cI cJ cZ cM) [(p0, .inr (7, oM p1 (upd i7 91 0) j7)), ((p1 90), .inl (cI, 12, .inl (fun _ => 0)))] [.ref p0, .int 0] 0 0 (fun (u9 : Unit) => [(p0, .inr (7, oM p1 (upd i7 91 1) j7)), ((p1 90), .inl (cI, 12, .inl (upd (fun _ => 0) 0 0)))]) (fun (u9 : Unit) => True) := by
  refine fun sz => k_enter (cc := cX7_writes) (maxL := 2) (ret := none) (Qc := fun A => va_Qv (fun (u9 : Unit) => True) (fun u => k_B (dC, dI) vwCl (tyy cI cJ cZ cM) A ((fun (u9 : Unit) => [(p0, .inr (7, oM p1 (upd i7 91 1) j7)), ((p1 90), .inl (cI, 12, .inl (upd (fun _ => 0) 0 0)))]) u)) A) sz (by decide +kernel) rfl (Nat.le_of_ble_eq_true rfl) (fun p e s m args below meth c A ls H locs B hP hD hS hl => ?_)
  obtain ⟨hx, hb, hml, hown, hts, hr, hlk, hnm, hK, hA, hN, hC⟩ := id B
  have hown : s.vm.findClass RX7 = some m.cls := hown
  have hl : lv_has ls 2 [(0, .ref p0), (1, .int 0)] := hl
  have w_0 : (Cond.fieldLink RX7 285 "WishSeaModel" "out" "[I").before args s = true := hts _ (List.mem_of_getElem? (i := 1) rfl)
  have w_1 : (Cond.fieldLink RX7 288 "WishSeaModel" "outs" "I").before args s = true := hts _ (List.mem_of_getElem? (i := 2) rfl)
  have hinX7 : ∀ w ∈ u_ws RX7 TX7 92, w ∈ wsX7_writes := fun _ h => List.mem_cons_of_mem _ (List.mem_append_right _ h)
  refine lv_aload_n hx hb dX7_writes_0 rfl (lv_at hl 0 rfl) ?_
  refine k_get (D := (dC, dI)) (ci := 7) (v := .ref (p1 90)) (C := RX7) (T := TX7) (N := 92) hx hb hts hinX7 hown hK hP 0 rfl rfl 90 (by decide) w_0 rfl rfl dX7_writes_1 ?_
  refine lv_aload_n hx hb dX7_writes_4 rfl (lv_at hl 0 rfl) ?_
  refine k_get (D := (dC, dI)) (ci := 7) (v := .int 0) (C := RX7) (T := TX7) (N := 92) hx hb hts hinX7 hown hK hP 0 rfl rfl 91 (by decide) w_1 rfl rfl dX7_writes_5 ?_
  refine lv_iload_n hx hb dX7_writes_8 rfl (lv_at hl 1 rfl) ?_
  refine lv_sipush (v := 255) hx hb dX7_writes_9 (by decide +kernel) ?_
  refine lv_iand hx hb dX7_writes_12 ?_
  refine k_int (v := 0) (by decide +kernel) ?_
  refine k_iast (g := (upd (fun _ => 0) 0 0)) (ws' := [(p0, .inr (7, oM p1 (upd i7 91 0) j7)), ((p1 90), .inl (cI, 12, .inl (upd (fun _ => 0) 0 0)))]) hx hb hK hP hD hS 1 0 0 rfl rfl rfl (Nat.le_of_ble_eq_true rfl) (Nat.le_of_ble_eq_true rfl) rfl rfl dX7_writes_13 (fun H locs hP hD hS => ?_)
  refine lv_aload_n hx hb dX7_writes_14 rfl (lv_at hl 0 rfl) ?_
  refine lv_dup hx hb dX7_writes_15 rfl ?_
  refine k_get (D := (dC, dI)) (ci := 7) (v := .int 0) (C := RX7) (T := TX7) (N := 92) hx hb hts hinX7 hown hK hP 0 rfl rfl 91 (by decide) w_1 rfl rfl dX7_writes_16 ?_
  refine lv_iconst (v := 1) hx hb dX7_writes_19 (by decide +kernel) ?_
  refine lv_iadd hx hb dX7_writes_20 ?_
  refine k_int (v := 1) (by decide +kernel) ?_
  refine k_put (D := (dC, dI)) (ci := 7) (v := .int 1) (C := RX7) (T := TX7) (N := 92) (ws' := [(p0, .inr (7, oM p1 (upd i7 91 1) j7)), ((p1 90), .inl (cI, 12, .inl (upd (fun _ => 0) 0 0)))]) hx hb hts hinX7 tyX7 tyX7_ok nmX7 hown hK hP hD hS 0 rfl rfl 91 (by decide) w_1 rfl rfl rfl rfl (Nat.le_of_ble_eq_true rfl) rfl dX7_writes_21 (fun H locs hP hD hS => ?_)
  exact k_rv B hP hD hS dX7_writes_24 () [0, 1] rfl rfl (Nat.le_of_ble_eq_true rfl) (Nat.le_of_ble_eq_true rfl) trivial
set_option maxHeartbeats 4000000 in
set_option maxRecDepth 100000 in
theorem c_X7_writes_v1 (l : Launch) (dC : Nat → ClassId) (dI : Nat → Nat → Nat) (cI cJ cZ cM : ClassId) (p0 : Nat) (p1 : Nat → Nat)   : k_Mv l yX7_writes wsX7_writes ({ frames := 1, cells := 0, slots := 0, locals := 40 }) (dC, dI) vwCl (tyy cI cJ cZ cM) [(p0, .inr (7, oM p1 (upd i7 91 1) j7)), ((p1 90), .inl (cI, 12, .inl (upd (fun _ => 0) 0 0)))] [.ref p0, .int 0] 0 0 (fun (u9 : Unit) => [(p0, .inr (7, oM p1 (upd i7 91 2) j7)), ((p1 90), .inl (cI, 12, .inl (upd (upd (fun _ => 0) 0 0) 1 0)))]) (fun (u9 : Unit) => True) := by
  refine fun sz => k_enter (cc := cX7_writes) (maxL := 2) (ret := none) (Qc := fun A => va_Qv (fun (u9 : Unit) => True) (fun u => k_B (dC, dI) vwCl (tyy cI cJ cZ cM) A ((fun (u9 : Unit) => [(p0, .inr (7, oM p1 (upd i7 91 2) j7)), ((p1 90), .inl (cI, 12, .inl (upd (upd (fun _ => 0) 0 0) 1 0)))]) u)) A) sz (by decide +kernel) rfl (Nat.le_of_ble_eq_true rfl) (fun p e s m args below meth c A ls H locs B hP hD hS hl => ?_)
  obtain ⟨hx, hb, hml, hown, hts, hr, hlk, hnm, hK, hA, hN, hC⟩ := id B
  have hown : s.vm.findClass RX7 = some m.cls := hown
  have hl : lv_has ls 2 [(0, .ref p0), (1, .int 0)] := hl
  have w_0 : (Cond.fieldLink RX7 285 "WishSeaModel" "out" "[I").before args s = true := hts _ (List.mem_of_getElem? (i := 1) rfl)
  have w_1 : (Cond.fieldLink RX7 288 "WishSeaModel" "outs" "I").before args s = true := hts _ (List.mem_of_getElem? (i := 2) rfl)
  have hinX7 : ∀ w ∈ u_ws RX7 TX7 92, w ∈ wsX7_writes := fun _ h => List.mem_cons_of_mem _ (List.mem_append_right _ h)
  refine lv_aload_n hx hb dX7_writes_0 rfl (lv_at hl 0 rfl) ?_
  refine k_get (D := (dC, dI)) (ci := 7) (v := .ref (p1 90)) (C := RX7) (T := TX7) (N := 92) hx hb hts hinX7 hown hK hP 0 rfl rfl 90 (by decide) w_0 rfl rfl dX7_writes_1 ?_
  refine lv_aload_n hx hb dX7_writes_4 rfl (lv_at hl 0 rfl) ?_
  refine k_get (D := (dC, dI)) (ci := 7) (v := .int 1) (C := RX7) (T := TX7) (N := 92) hx hb hts hinX7 hown hK hP 0 rfl rfl 91 (by decide) w_1 rfl rfl dX7_writes_5 ?_
  refine lv_iload_n hx hb dX7_writes_8 rfl (lv_at hl 1 rfl) ?_
  refine lv_sipush (v := 255) hx hb dX7_writes_9 (by decide +kernel) ?_
  refine lv_iand hx hb dX7_writes_12 ?_
  refine k_int (v := 0) (by decide +kernel) ?_
  refine k_iast (g := (upd (upd (fun _ => 0) 0 0) 1 0)) (ws' := [(p0, .inr (7, oM p1 (upd i7 91 1) j7)), ((p1 90), .inl (cI, 12, .inl (upd (upd (fun _ => 0) 0 0) 1 0)))]) hx hb hK hP hD hS 1 0 1 rfl rfl rfl (Nat.le_of_ble_eq_true rfl) (Nat.le_of_ble_eq_true rfl) rfl rfl dX7_writes_13 (fun H locs hP hD hS => ?_)
  refine lv_aload_n hx hb dX7_writes_14 rfl (lv_at hl 0 rfl) ?_
  refine lv_dup hx hb dX7_writes_15 rfl ?_
  refine k_get (D := (dC, dI)) (ci := 7) (v := .int 1) (C := RX7) (T := TX7) (N := 92) hx hb hts hinX7 hown hK hP 0 rfl rfl 91 (by decide) w_1 rfl rfl dX7_writes_16 ?_
  refine lv_iconst (v := 1) hx hb dX7_writes_19 (by decide +kernel) ?_
  refine lv_iadd hx hb dX7_writes_20 ?_
  refine k_int (v := 2) (by decide +kernel) ?_
  refine k_put (D := (dC, dI)) (ci := 7) (v := .int 2) (C := RX7) (T := TX7) (N := 92) (ws' := [(p0, .inr (7, oM p1 (upd i7 91 2) j7)), ((p1 90), .inl (cI, 12, .inl (upd (upd (fun _ => 0) 0 0) 1 0)))]) hx hb hts hinX7 tyX7 tyX7_ok nmX7 hown hK hP hD hS 0 rfl rfl 91 (by decide) w_1 rfl rfl rfl rfl (Nat.le_of_ble_eq_true rfl) rfl dX7_writes_21 (fun H locs hP hD hS => ?_)
  exact k_rv B hP hD hS dX7_writes_24 () [0, 1] rfl rfl (Nat.le_of_ble_eq_true rfl) (Nat.le_of_ble_eq_true rfl) trivial
set_option maxHeartbeats 4000000 in
set_option maxRecDepth 100000 in
theorem c_X7_writes_v2 (l : Launch) (dC : Nat → ClassId) (dI : Nat → Nat → Nat) (cI cJ cZ cM : ClassId) (p0 : Nat) (p1 : Nat → Nat)   : k_Mv l yX7_writes wsX7_writes ({ frames := 1, cells := 0, slots := 0, locals := 40 }) (dC, dI) vwCl (tyy cI cJ cZ cM) [(p0, .inr (7, oM p1 (upd i7 91 2) j7)), ((p1 90), .inl (cI, 12, .inl (upd (upd (fun _ => 0) 0 0) 1 0)))] [.ref p0, .int 0] 0 0 (fun (u9 : Unit) => [(p0, .inr (7, oM p1 (upd i7 91 3) j7)), ((p1 90), .inl (cI, 12, .inl (upd (upd (upd (fun _ => 0) 0 0) 1 0) 2 0)))]) (fun (u9 : Unit) => True) := by
  refine fun sz => k_enter (cc := cX7_writes) (maxL := 2) (ret := none) (Qc := fun A => va_Qv (fun (u9 : Unit) => True) (fun u => k_B (dC, dI) vwCl (tyy cI cJ cZ cM) A ((fun (u9 : Unit) => [(p0, .inr (7, oM p1 (upd i7 91 3) j7)), ((p1 90), .inl (cI, 12, .inl (upd (upd (upd (fun _ => 0) 0 0) 1 0) 2 0)))]) u)) A) sz (by decide +kernel) rfl (Nat.le_of_ble_eq_true rfl) (fun p e s m args below meth c A ls H locs B hP hD hS hl => ?_)
  obtain ⟨hx, hb, hml, hown, hts, hr, hlk, hnm, hK, hA, hN, hC⟩ := id B
  have hown : s.vm.findClass RX7 = some m.cls := hown
  have hl : lv_has ls 2 [(0, .ref p0), (1, .int 0)] := hl
  have w_0 : (Cond.fieldLink RX7 285 "WishSeaModel" "out" "[I").before args s = true := hts _ (List.mem_of_getElem? (i := 1) rfl)
  have w_1 : (Cond.fieldLink RX7 288 "WishSeaModel" "outs" "I").before args s = true := hts _ (List.mem_of_getElem? (i := 2) rfl)
  have hinX7 : ∀ w ∈ u_ws RX7 TX7 92, w ∈ wsX7_writes := fun _ h => List.mem_cons_of_mem _ (List.mem_append_right _ h)
  refine lv_aload_n hx hb dX7_writes_0 rfl (lv_at hl 0 rfl) ?_
  refine k_get (D := (dC, dI)) (ci := 7) (v := .ref (p1 90)) (C := RX7) (T := TX7) (N := 92) hx hb hts hinX7 hown hK hP 0 rfl rfl 90 (by decide) w_0 rfl rfl dX7_writes_1 ?_
  refine lv_aload_n hx hb dX7_writes_4 rfl (lv_at hl 0 rfl) ?_
  refine k_get (D := (dC, dI)) (ci := 7) (v := .int 2) (C := RX7) (T := TX7) (N := 92) hx hb hts hinX7 hown hK hP 0 rfl rfl 91 (by decide) w_1 rfl rfl dX7_writes_5 ?_
  refine lv_iload_n hx hb dX7_writes_8 rfl (lv_at hl 1 rfl) ?_
  refine lv_sipush (v := 255) hx hb dX7_writes_9 (by decide +kernel) ?_
  refine lv_iand hx hb dX7_writes_12 ?_
  refine k_int (v := 0) (by decide +kernel) ?_
  refine k_iast (g := (upd (upd (upd (fun _ => 0) 0 0) 1 0) 2 0)) (ws' := [(p0, .inr (7, oM p1 (upd i7 91 2) j7)), ((p1 90), .inl (cI, 12, .inl (upd (upd (upd (fun _ => 0) 0 0) 1 0) 2 0)))]) hx hb hK hP hD hS 1 0 2 rfl rfl rfl (Nat.le_of_ble_eq_true rfl) (Nat.le_of_ble_eq_true rfl) rfl rfl dX7_writes_13 (fun H locs hP hD hS => ?_)
  refine lv_aload_n hx hb dX7_writes_14 rfl (lv_at hl 0 rfl) ?_
  refine lv_dup hx hb dX7_writes_15 rfl ?_
  refine k_get (D := (dC, dI)) (ci := 7) (v := .int 2) (C := RX7) (T := TX7) (N := 92) hx hb hts hinX7 hown hK hP 0 rfl rfl 91 (by decide) w_1 rfl rfl dX7_writes_16 ?_
  refine lv_iconst (v := 1) hx hb dX7_writes_19 (by decide +kernel) ?_
  refine lv_iadd hx hb dX7_writes_20 ?_
  refine k_int (v := 3) (by decide +kernel) ?_
  refine k_put (D := (dC, dI)) (ci := 7) (v := .int 3) (C := RX7) (T := TX7) (N := 92) (ws' := [(p0, .inr (7, oM p1 (upd i7 91 3) j7)), ((p1 90), .inl (cI, 12, .inl (upd (upd (upd (fun _ => 0) 0 0) 1 0) 2 0)))]) hx hb hts hinX7 tyX7 tyX7_ok nmX7 hown hK hP hD hS 0 rfl rfl 91 (by decide) w_1 rfl rfl rfl rfl (Nat.le_of_ble_eq_true rfl) rfl dX7_writes_21 (fun H locs hP hD hS => ?_)
  exact k_rv B hP hD hS dX7_writes_24 () [0, 1] rfl rfl (Nat.le_of_ble_eq_true rfl) (Nat.le_of_ble_eq_true rfl) trivial
set_option maxHeartbeats 4000000 in
set_option maxRecDepth 100000 in
theorem c_X7_writes_v3 (l : Launch) (dC : Nat → ClassId) (dI : Nat → Nat → Nat) (cI cJ cZ cM : ClassId) (p0 : Nat) (p1 : Nat → Nat)   : k_Mv l yX7_writes wsX7_writes ({ frames := 1, cells := 0, slots := 0, locals := 40 }) (dC, dI) vwCl (tyy cI cJ cZ cM) [(p0, .inr (7, oM p1 (upd i7 91 3) j7)), ((p1 90), .inl (cI, 12, .inl (upd (upd (upd (fun _ => 0) 0 0) 1 0) 2 0)))] [.ref p0, .int 0] 0 0 (fun (u9 : Unit) => [(p0, .inr (7, oM p1 (upd i7 91 4) j7)), ((p1 90), .inl (cI, 12, .inl (upd (upd (upd (upd (fun _ => 0) 0 0) 1 0) 2 0) 3 0)))]) (fun (u9 : Unit) => True) := by
  refine fun sz => k_enter (cc := cX7_writes) (maxL := 2) (ret := none) (Qc := fun A => va_Qv (fun (u9 : Unit) => True) (fun u => k_B (dC, dI) vwCl (tyy cI cJ cZ cM) A ((fun (u9 : Unit) => [(p0, .inr (7, oM p1 (upd i7 91 4) j7)), ((p1 90), .inl (cI, 12, .inl (upd (upd (upd (upd (fun _ => 0) 0 0) 1 0) 2 0) 3 0)))]) u)) A) sz (by decide +kernel) rfl (Nat.le_of_ble_eq_true rfl) (fun p e s m args below meth c A ls H locs B hP hD hS hl => ?_)
  obtain ⟨hx, hb, hml, hown, hts, hr, hlk, hnm, hK, hA, hN, hC⟩ := id B
  have hown : s.vm.findClass RX7 = some m.cls := hown
  have hl : lv_has ls 2 [(0, .ref p0), (1, .int 0)] := hl
  have w_0 : (Cond.fieldLink RX7 285 "WishSeaModel" "out" "[I").before args s = true := hts _ (List.mem_of_getElem? (i := 1) rfl)
  have w_1 : (Cond.fieldLink RX7 288 "WishSeaModel" "outs" "I").before args s = true := hts _ (List.mem_of_getElem? (i := 2) rfl)
  have hinX7 : ∀ w ∈ u_ws RX7 TX7 92, w ∈ wsX7_writes := fun _ h => List.mem_cons_of_mem _ (List.mem_append_right _ h)
  refine lv_aload_n hx hb dX7_writes_0 rfl (lv_at hl 0 rfl) ?_
  refine k_get (D := (dC, dI)) (ci := 7) (v := .ref (p1 90)) (C := RX7) (T := TX7) (N := 92) hx hb hts hinX7 hown hK hP 0 rfl rfl 90 (by decide) w_0 rfl rfl dX7_writes_1 ?_
  refine lv_aload_n hx hb dX7_writes_4 rfl (lv_at hl 0 rfl) ?_
  refine k_get (D := (dC, dI)) (ci := 7) (v := .int 3) (C := RX7) (T := TX7) (N := 92) hx hb hts hinX7 hown hK hP 0 rfl rfl 91 (by decide) w_1 rfl rfl dX7_writes_5 ?_
  refine lv_iload_n hx hb dX7_writes_8 rfl (lv_at hl 1 rfl) ?_
  refine lv_sipush (v := 255) hx hb dX7_writes_9 (by decide +kernel) ?_
  refine lv_iand hx hb dX7_writes_12 ?_
  refine k_int (v := 0) (by decide +kernel) ?_
  refine k_iast (g := (upd (upd (upd (upd (fun _ => 0) 0 0) 1 0) 2 0) 3 0)) (ws' := [(p0, .inr (7, oM p1 (upd i7 91 3) j7)), ((p1 90), .inl (cI, 12, .inl (upd (upd (upd (upd (fun _ => 0) 0 0) 1 0) 2 0) 3 0)))]) hx hb hK hP hD hS 1 0 3 rfl rfl rfl (Nat.le_of_ble_eq_true rfl) (Nat.le_of_ble_eq_true rfl) rfl rfl dX7_writes_13 (fun H locs hP hD hS => ?_)
  refine lv_aload_n hx hb dX7_writes_14 rfl (lv_at hl 0 rfl) ?_
  refine lv_dup hx hb dX7_writes_15 rfl ?_
  refine k_get (D := (dC, dI)) (ci := 7) (v := .int 3) (C := RX7) (T := TX7) (N := 92) hx hb hts hinX7 hown hK hP 0 rfl rfl 91 (by decide) w_1 rfl rfl dX7_writes_16 ?_
  refine lv_iconst (v := 1) hx hb dX7_writes_19 (by decide +kernel) ?_
  refine lv_iadd hx hb dX7_writes_20 ?_
  refine k_int (v := 4) (by decide +kernel) ?_
  refine k_put (D := (dC, dI)) (ci := 7) (v := .int 4) (C := RX7) (T := TX7) (N := 92) (ws' := [(p0, .inr (7, oM p1 (upd i7 91 4) j7)), ((p1 90), .inl (cI, 12, .inl (upd (upd (upd (upd (fun _ => 0) 0 0) 1 0) 2 0) 3 0)))]) hx hb hts hinX7 tyX7 tyX7_ok nmX7 hown hK hP hD hS 0 rfl rfl 91 (by decide) w_1 rfl rfl rfl rfl (Nat.le_of_ble_eq_true rfl) rfl dX7_writes_21 (fun H locs hP hD hS => ?_)
  exact k_rv B hP hD hS dX7_writes_24 () [0, 1] rfl rfl (Nat.le_of_ble_eq_true rfl) (Nat.le_of_ble_eq_true rfl) trivial
set_option maxHeartbeats 4000000 in
set_option maxRecDepth 100000 in
theorem c_X7_writes_v4 (l : Launch) (dC : Nat → ClassId) (dI : Nat → Nat → Nat) (cI cJ cZ cM : ClassId) (p0 : Nat) (p1 : Nat → Nat)   : k_Mv l yX7_writes wsX7_writes ({ frames := 1, cells := 0, slots := 0, locals := 40 }) (dC, dI) vwCl (tyy cI cJ cZ cM) [(p0, .inr (7, oM p1 (upd i7 91 4) j7)), ((p1 90), .inl (cI, 12, .inl (upd (upd (upd (upd (fun _ => 0) 0 0) 1 0) 2 0) 3 0)))] [.ref p0, .int 0] 0 0 (fun (u9 : Unit) => [(p0, .inr (7, oM p1 (upd i7 91 5) j7)), ((p1 90), .inl (cI, 12, .inl (upd (upd (upd (upd (upd (fun _ => 0) 0 0) 1 0) 2 0) 3 0) 4 0)))]) (fun (u9 : Unit) => True) := by
  refine fun sz => k_enter (cc := cX7_writes) (maxL := 2) (ret := none) (Qc := fun A => va_Qv (fun (u9 : Unit) => True) (fun u => k_B (dC, dI) vwCl (tyy cI cJ cZ cM) A ((fun (u9 : Unit) => [(p0, .inr (7, oM p1 (upd i7 91 5) j7)), ((p1 90), .inl (cI, 12, .inl (upd (upd (upd (upd (upd (fun _ => 0) 0 0) 1 0) 2 0) 3 0) 4 0)))]) u)) A) sz (by decide +kernel) rfl (Nat.le_of_ble_eq_true rfl) (fun p e s m args below meth c A ls H locs B hP hD hS hl => ?_)
  obtain ⟨hx, hb, hml, hown, hts, hr, hlk, hnm, hK, hA, hN, hC⟩ := id B
  have hown : s.vm.findClass RX7 = some m.cls := hown
  have hl : lv_has ls 2 [(0, .ref p0), (1, .int 0)] := hl
  have w_0 : (Cond.fieldLink RX7 285 "WishSeaModel" "out" "[I").before args s = true := hts _ (List.mem_of_getElem? (i := 1) rfl)
  have w_1 : (Cond.fieldLink RX7 288 "WishSeaModel" "outs" "I").before args s = true := hts _ (List.mem_of_getElem? (i := 2) rfl)
  have hinX7 : ∀ w ∈ u_ws RX7 TX7 92, w ∈ wsX7_writes := fun _ h => List.mem_cons_of_mem _ (List.mem_append_right _ h)
  refine lv_aload_n hx hb dX7_writes_0 rfl (lv_at hl 0 rfl) ?_
  refine k_get (D := (dC, dI)) (ci := 7) (v := .ref (p1 90)) (C := RX7) (T := TX7) (N := 92) hx hb hts hinX7 hown hK hP 0 rfl rfl 90 (by decide) w_0 rfl rfl dX7_writes_1 ?_
  refine lv_aload_n hx hb dX7_writes_4 rfl (lv_at hl 0 rfl) ?_
  refine k_get (D := (dC, dI)) (ci := 7) (v := .int 4) (C := RX7) (T := TX7) (N := 92) hx hb hts hinX7 hown hK hP 0 rfl rfl 91 (by decide) w_1 rfl rfl dX7_writes_5 ?_
  refine lv_iload_n hx hb dX7_writes_8 rfl (lv_at hl 1 rfl) ?_
  refine lv_sipush (v := 255) hx hb dX7_writes_9 (by decide +kernel) ?_
  refine lv_iand hx hb dX7_writes_12 ?_
  refine k_int (v := 0) (by decide +kernel) ?_
  refine k_iast (g := (upd (upd (upd (upd (upd (fun _ => 0) 0 0) 1 0) 2 0) 3 0) 4 0)) (ws' := [(p0, .inr (7, oM p1 (upd i7 91 4) j7)), ((p1 90), .inl (cI, 12, .inl (upd (upd (upd (upd (upd (fun _ => 0) 0 0) 1 0) 2 0) 3 0) 4 0)))]) hx hb hK hP hD hS 1 0 4 rfl rfl rfl (Nat.le_of_ble_eq_true rfl) (Nat.le_of_ble_eq_true rfl) rfl rfl dX7_writes_13 (fun H locs hP hD hS => ?_)
  refine lv_aload_n hx hb dX7_writes_14 rfl (lv_at hl 0 rfl) ?_
  refine lv_dup hx hb dX7_writes_15 rfl ?_
  refine k_get (D := (dC, dI)) (ci := 7) (v := .int 4) (C := RX7) (T := TX7) (N := 92) hx hb hts hinX7 hown hK hP 0 rfl rfl 91 (by decide) w_1 rfl rfl dX7_writes_16 ?_
  refine lv_iconst (v := 1) hx hb dX7_writes_19 (by decide +kernel) ?_
  refine lv_iadd hx hb dX7_writes_20 ?_
  refine k_int (v := 5) (by decide +kernel) ?_
  refine k_put (D := (dC, dI)) (ci := 7) (v := .int 5) (C := RX7) (T := TX7) (N := 92) (ws' := [(p0, .inr (7, oM p1 (upd i7 91 5) j7)), ((p1 90), .inl (cI, 12, .inl (upd (upd (upd (upd (upd (fun _ => 0) 0 0) 1 0) 2 0) 3 0) 4 0)))]) hx hb hts hinX7 tyX7 tyX7_ok nmX7 hown hK hP hD hS 0 rfl rfl 91 (by decide) w_1 rfl rfl rfl rfl (Nat.le_of_ble_eq_true rfl) rfl dX7_writes_21 (fun H locs hP hD hS => ?_)
  exact k_rv B hP hD hS dX7_writes_24 () [0, 1] rfl rfl (Nat.le_of_ble_eq_true rfl) (Nat.le_of_ble_eq_true rfl) trivial
