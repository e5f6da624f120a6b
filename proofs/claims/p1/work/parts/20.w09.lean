set_option maxHeartbeats 4000000 in
set_option maxRecDepth 100000 in
theorem c_X7_fewest_v3 (l : Launch) (dC : Nat → ClassId) (dI : Nat → Nat → Nat) (cI cJ cZ cM : ClassId) (p0 : Nat) (p1 : Int32) (p2 : Int32) (p3 : Nat → Nat) (b_0 : 2 ≤ p2.toInt) (t_0 : p2.toInt ≤ 2)  : k_Mi l yX7_fewest wsX7_fewest ({ frames := 4, cells := 0, slots := 0, locals := 112 }) (dC, dI) vwCl (tyy cI cJ cZ cM) [(p0, .inr (7, oM p3 i7 j7)), ((p3 14), .inl (cI, 2, .inl (fun _ => 0))), ((p3 49), .inl (cI, 22, .inl (fun _ => 0))), ((p3 50), .inl (cI, 22, .inl (fun _ => 0))), ((p3 72), .inl (cI, 9216, .inl (fun _ => 0))), ((p3 18), .inl (cI, 2, .inl (fun _ => 0)))] [.ref p0, .int p1, .int p2] 0 0 (fun (u9 : (Nat × (Nat → Nat))) => match u9.1 with | 0 => [(p0, .inr (7, oM p3 i7 j7)), ((p3 14), .inl (cI, 2, .inl (fun _ => 0))), ((p3 49), .inl (cI, 22, .inl (fun _ => 0))), ((p3 50), .inl (cI, 22, .inl (fun _ => 0))), ((p3 72), .inl (cI, 9216, .inl (fun _ => 0))), ((p3 18), .inl (cI, 2, .inl (fun _ => 0)))] | 1 => [(p0, .inr (7, oM p3 i7 j7)), ((p3 14), .inl (cI, 2, .inl (fun _ => 0))), ((p3 49), .inl (cI, 22, .inl (fun _ => 0))), ((p3 50), .inl (cI, 22, .inl (fun _ => 0))), ((p3 72), .inl (cI, 9216, .inl (fun _ => 0))), ((p3 18), .inl (cI, 2, .inl (fun _ => 0)))] | 2 => [(p0, .inr (7, oM p3 (upd (upd i7 75 0) 76 0) j7)), ((p3 14), .inl (cI, 2, .inl (fun _ => 0))), ((p3 49), .inl (cI, 22, .inl (fun _ => 0))), ((p3 50), .inl (cI, 22, .inl (fun _ => 0))), ((p3 72), .inl (cI, 9216, .inl (upd (fun _ => (-1)) 0 0))), ((p3 18), .inl (cI, 2, .inl (fun _ => 0)))] | _ => []) (fun (r9 : Int32) (u9 : (Nat × (Nat → Nat))) => match u9.1 with | 0 => (p2.toInt = 2) ∧ (p1.toInt < 0) ∧ r9 = (-1) | 1 => (p2.toInt = 2) ∧ (0 ≤ p1.toInt) ∧ (0 < p1.toInt) ∧ r9 = (-1) | 2 => (p2.toInt = 2) ∧ (0 ≤ p1.toInt) ∧ (p1.toInt ≤ 0) ∧ r9 = 0 | _ => False) := by
  refine fun sz => k_enter (cc := cX7_fewest) (maxL := 3) (ret := some (.int)) (Qc := fun A => va_Qi (fun (r9 : Int32) (u9 : (Nat × (Nat → Nat))) => match u9.1 with | 0 => (p2.toInt = 2) ∧ (p1.toInt < 0) ∧ r9 = (-1) | 1 => (p2.toInt = 2) ∧ (0 ≤ p1.toInt) ∧ (0 < p1.toInt) ∧ r9 = (-1) | 2 => (p2.toInt = 2) ∧ (0 ≤ p1.toInt) ∧ (p1.toInt ≤ 0) ∧ r9 = 0 | _ => False) (fun u => k_B (dC, dI) vwCl (tyy cI cJ cZ cM) A ((fun (u9 : (Nat × (Nat → Nat))) => match u9.1 with | 0 => [(p0, .inr (7, oM p3 i7 j7)), ((p3 14), .inl (cI, 2, .inl (fun _ => 0))), ((p3 49), .inl (cI, 22, .inl (fun _ => 0))), ((p3 50), .inl (cI, 22, .inl (fun _ => 0))), ((p3 72), .inl (cI, 9216, .inl (fun _ => 0))), ((p3 18), .inl (cI, 2, .inl (fun _ => 0)))] | 1 => [(p0, .inr (7, oM p3 i7 j7)), ((p3 14), .inl (cI, 2, .inl (fun _ => 0))), ((p3 49), .inl (cI, 22, .inl (fun _ => 0))), ((p3 50), .inl (cI, 22, .inl (fun _ => 0))), ((p3 72), .inl (cI, 9216, .inl (fun _ => 0))), ((p3 18), .inl (cI, 2, .inl (fun _ => 0)))] | 2 => [(p0, .inr (7, oM p3 (upd (upd i7 75 0) 76 0) j7)), ((p3 14), .inl (cI, 2, .inl (fun _ => 0))), ((p3 49), .inl (cI, 22, .inl (fun _ => 0))), ((p3 50), .inl (cI, 22, .inl (fun _ => 0))), ((p3 72), .inl (cI, 9216, .inl (upd (fun _ => (-1)) 0 0))), ((p3 18), .inl (cI, 2, .inl (fun _ => 0)))] | _ => []) u)) A) sz (by decide +kernel) rfl (Nat.le_of_ble_eq_true rfl) (fun p e s m args below meth c A ls H locs B hP hD hS hl => ?_)
  obtain ⟨hx, hb, hml, hown, hts, hr, hlk, hnm, hK, hA, hN, hC⟩ := id B
  have hown : s.vm.findClass RX7 = some m.cls := hown
  have hl : lv_has ls 3 [(0, .ref p0), (1, .int p1), (2, .int p2)] := hl
  have w_0 : (Cond.fieldLink RX7 54 "WishSeaModel" "things" "[I").before args s = true := hts _ (List.mem_of_getElem? (i := 1) rfl)
  have w_1 : (Cond.fieldLink RX7 51 "WishSeaModel" "bank" "I").before args s = true := hts _ (List.mem_of_getElem? (i := 2) rfl)
  have w_2 : (Cond.fieldLink RX7 240 "WishSeaModel" "foundRung" "I").before args s = true := hts _ (List.mem_of_getElem? (i := 3) rfl)
  have w_3 : (Cond.fieldLink RX7 243 "WishSeaModel" "foundSet" "I").before args s = true := hts _ (List.mem_of_getElem? (i := 4) rfl)
  have hinX7 : ∀ w ∈ u_ws RX7 TX7 92, w ∈ wsX7_fewest := fun _ h => List.mem_cons_of_mem _ (List.mem_append_right _ h)
  rcases (show p2.toInt = 2 by omega) with c_1
  obtain rfl : p2 = 2 := k_eqL (by decide +kernel) c_1
  refine lv_iload_n hx hb dX7_fewest_0 rfl (lv_at hl 1 rfl) ?_
  refine lv_iconst (v := 0) hx hb dX7_fewest_1 (by decide +kernel) ?_
  refine lv_iconst (v := 1) hx hb dX7_fewest_2 (by decide +kernel) ?_
  refine lv_aload_n hx hb dX7_fewest_3 rfl (lv_at hl 0 rfl) ?_
  refine k_get (D := (dC, dI)) (ci := 7) (v := .ref (p3 14)) (C := RX7) (T := TX7) (N := 92) hx hb hts hinX7 hown hK hP 0 rfl rfl 14 (by decide) w_0 rfl rfl dX7_fewest_4 ?_
  refine lv_aload_n hx hb dX7_fewest_7 rfl (lv_at hl 0 rfl) ?_
  refine k_get (D := (dC, dI)) (ci := 7) (v := .int 0) (C := RX7) (T := TX7) (N := 92) hx hb hts hinX7 hown hK hP 0 rfl rfl 13 (by decide) w_1 rfl rfl dX7_fewest_8 ?_
  refine k_iald (v := 0) hx hb hK hP 1 0 0 rfl rfl rfl (Nat.le_of_ble_eq_true rfl) (Nat.le_of_ble_eq_true rfl) rfl dX7_fewest_11 ?_
  refine lv_ishl hx hb dX7_fewest_12 ?_
  refine k_int (v := 1) (by decide +kernel) ?_
  refine lv_iconst (v := 1) hx hb dX7_fewest_13 (by decide +kernel) ?_
  refine lv_isub hx hb dX7_fewest_14 ?_
  refine k_int (v := 0) (by decide +kernel) ?_
  refine k_ci (wc := []) (wr := [(p0, .inr (7, oM p3 i7 j7)), ((p3 14), .inl (cI, 2, .inl (fun _ => 0))), ((p3 49), .inl (cI, 22, .inl (fun _ => 0))), ((p3 50), .inl (cI, 22, .inl (fun _ => 0))), ((p3 72), .inl (cI, 9216, .inl (fun _ => 0))), ((p3 18), .inl (cI, 2, .inl (fun _ => 0)))]) (fun hPc hDc hFc => va_runS (As := [.int p1, .int 0, .int 0]) (rest := []) ⟨hx, hb, hml, hown, hts⟩ (c_X7_is_v16 l dC dI cI cJ cZ cM p1 H.size) (va_cwS 3 hts gX7_fewest_X7_is rfl rfl rfl (by decide +kernel) ⟨(Nat.le_of_ble_eq_true rfl), (Nat.le_of_ble_eq_true rfl)⟩) (k_pS hPc hDc hK hN hC hS hFc) rfl rfl hl.1 rfl (lv_room (Nat.le_of_ble_eq_true rfl)) dX7_fewest_15 ⟨(Nat.le_of_ble_eq_true rfl), (Nat.le_of_ble_eq_true rfl)⟩) hP hD hS hA [] [0, 1, 2, 3, 4, 5] rfl rfl rfl rfl (by decide) (fun _ => rfl) 0 0 rfl rfl (fun r_2 u_3 H locs hw hP hD hS => ?_)
  obtain ⟨k_u_3, u_u_3⟩ := u_3
  rcases k_u_3 with _ | _ | _ | k_u_3
  · obtain ⟨c_4, rfl⟩ : (p1.toInt < 0) ∧ r_2 = 0 := hw
    have hP : va_P (dC, dI) vwCl [(p0, .inr (7, oM p3 i7 j7)), ((p3 14), .inl (cI, 2, .inl (fun _ => 0))), ((p3 49), .inl (cI, 22, .inl (fun _ => 0))), ((p3 50), .inl (cI, 22, .inl (fun _ => 0))), ((p3 72), .inl (cI, 9216, .inl (fun _ => 0))), ((p3 18), .inl (cI, 2, .inl (fun _ => 0)))] H := hP
    have hD : va_D A [(p0, .inr (7, oM p3 i7 j7)), ((p3 14), .inl (cI, 2, .inl (fun _ => 0))), ((p3 49), .inl (cI, 22, .inl (fun _ => 0))), ((p3 50), .inl (cI, 22, .inl (fun _ => 0))), ((p3 72), .inl (cI, 9216, .inl (fun _ => 0))), ((p3 18), .inl (cI, 2, .inl (fun _ => 0)))] := hD
    refine lv_if_ne (tgt := 23) hx hb dX7_fewest_18 (by decide) (fun q9 => absurd q9 (by decide +kernel)) (fun _ => ?_)
    refine lv_iconst (v := (-1)) hx hb dX7_fewest_21 (by decide +kernel) ?_
    exact k_ri B hP hD hS dX7_fewest_22 (0, (fun _ => 0)) [0, 1, 2, 3, 4, 5] rfl rfl rfl (Nat.le_of_ble_eq_true rfl) (Nat.le_of_ble_eq_true rfl) ⟨c_1, c_4, rfl⟩
  · obtain ⟨c_5, c_6, rfl⟩ : (0 ≤ p1.toInt) ∧ (0 < p1.toInt) ∧ r_2 = 0 := hw
    have hP : va_P (dC, dI) vwCl [(p0, .inr (7, oM p3 i7 j7)), ((p3 14), .inl (cI, 2, .inl (fun _ => 0))), ((p3 49), .inl (cI, 22, .inl (fun _ => 0))), ((p3 50), .inl (cI, 22, .inl (fun _ => 0))), ((p3 72), .inl (cI, 9216, .inl (fun _ => 0))), ((p3 18), .inl (cI, 2, .inl (fun _ => 0)))] H := hP
    have hD : va_D A [(p0, .inr (7, oM p3 i7 j7)), ((p3 14), .inl (cI, 2, .inl (fun _ => 0))), ((p3 49), .inl (cI, 22, .inl (fun _ => 0))), ((p3 50), .inl (cI, 22, .inl (fun _ => 0))), ((p3 72), .inl (cI, 9216, .inl (fun _ => 0))), ((p3 18), .inl (cI, 2, .inl (fun _ => 0)))] := hD
    refine lv_if_ne (tgt := 23) hx hb dX7_fewest_18 (by decide) (fun q9 => absurd q9 (by decide +kernel)) (fun _ => ?_)
    refine lv_iconst (v := (-1)) hx hb dX7_fewest_21 (by decide +kernel) ?_
    exact k_ri B hP hD hS dX7_fewest_22 (1, (fun _ => 0)) [0, 1, 2, 3, 4, 5] rfl rfl rfl (Nat.le_of_ble_eq_true rfl) (Nat.le_of_ble_eq_true rfl) ⟨c_1, c_5, c_6, rfl⟩
  · obtain ⟨c_7, c_8, rfl⟩ : (0 ≤ p1.toInt) ∧ (p1.toInt ≤ 0) ∧ r_2 = 1 := hw
    have hP : va_P (dC, dI) vwCl [(p0, .inr (7, oM p3 i7 j7)), ((p3 14), .inl (cI, 2, .inl (fun _ => 0))), ((p3 49), .inl (cI, 22, .inl (fun _ => 0))), ((p3 50), .inl (cI, 22, .inl (fun _ => 0))), ((p3 72), .inl (cI, 9216, .inl (fun _ => 0))), ((p3 18), .inl (cI, 2, .inl (fun _ => 0)))] H := hP
    have hD : va_D A [(p0, .inr (7, oM p3 i7 j7)), ((p3 14), .inl (cI, 2, .inl (fun _ => 0))), ((p3 49), .inl (cI, 22, .inl (fun _ => 0))), ((p3 50), .inl (cI, 22, .inl (fun _ => 0))), ((p3 72), .inl (cI, 9216, .inl (fun _ => 0))), ((p3 18), .inl (cI, 2, .inl (fun _ => 0)))] := hD
    refine lv_if_ne (tgt := 23) hx hb dX7_fewest_18 (by decide) (fun _ => ?_) (fun q9 => absurd q9 (by decide +kernel))
    refine lv_aload_n hx hb dX7_fewest_23 rfl (lv_at hl 0 rfl) ?_
    refine lv_iload_n hx hb dX7_fewest_24 rfl (lv_at hl 1 rfl) ?_
    refine k_cv (wc := [(p0, .inr (7, oM p3 i7 j7)), ((p3 49), .inl (cI, 22, .inl (fun _ => 0))), ((p3 50), .inl (cI, 22, .inl (fun _ => 0))), ((p3 72), .inl (cI, 9216, .inl (fun _ => 0))), ((p3 14), .inl (cI, 2, .inl (fun _ => 0))), ((p3 18), .inl (cI, 2, .inl (fun _ => 0)))]) (wr := []) (fun hPc hDc hFc => va_runV (As := [.int p1]) (rest := []) ⟨hx, hb, hml, hown, hts⟩ (c_X7_finds_v0 l dC dI cI cJ cZ cM p0 p1 p3 (by omega) (by omega) H.size) (cwV 1 hts gX7_fewest_X7_finds rfl rfl rfl (by decide +kernel) ⟨(Nat.le_of_ble_eq_true rfl), (Nat.le_of_ble_eq_true rfl)⟩) (k_pV hPc hDc hK hN hC hS hFc hP (q0 := 0) (ci := 7) rfl rfl) rfl rfl hl.1 rfl (lv_room (Nat.le_of_ble_eq_true rfl)) dX7_fewest_25 ⟨(Nat.le_of_ble_eq_true rfl), (Nat.le_of_ble_eq_true rfl)⟩) hP hD hS hA [0, 2, 3, 4, 1, 5] [] rfl rfl rfl rfl (by decide) (fun _ => rfl) 0 0 rfl rfl (fun u_10 H locs hw hP hD hS => ?_)
    have hP : va_P (dC, dI) vwCl [(p0, .inr (7, oM p3 (upd (upd i7 75 0) 76 0) j7)), ((p3 49), .inl (cI, 22, .inl (fun _ => 0))), ((p3 50), .inl (cI, 22, .inl (fun _ => 0))), ((p3 72), .inl (cI, 9216, .inl (upd (fun _ => (-1)) 0 0))), ((p3 14), .inl (cI, 2, .inl (fun _ => 0))), ((p3 18), .inl (cI, 2, .inl (fun _ => 0)))] H := hP
    have hD : va_D A [(p0, .inr (7, oM p3 (upd (upd i7 75 0) 76 0) j7)), ((p3 49), .inl (cI, 22, .inl (fun _ => 0))), ((p3 50), .inl (cI, 22, .inl (fun _ => 0))), ((p3 72), .inl (cI, 9216, .inl (upd (fun _ => (-1)) 0 0))), ((p3 14), .inl (cI, 2, .inl (fun _ => 0))), ((p3 18), .inl (cI, 2, .inl (fun _ => 0)))] := hD
    refine lv_aload_n hx hb dX7_fewest_28 rfl (lv_at hl 0 rfl) ?_
    refine k_get (D := (dC, dI)) (ci := 7) (v := .int 0) (C := RX7) (T := TX7) (N := 92) hx hb hts hinX7 hown hK hP 0 rfl rfl 75 (by decide) w_2 rfl rfl dX7_fewest_29 ?_
    refine lv_iconst (v := (-1)) hx hb dX7_fewest_32 (by decide +kernel) ?_
    refine lv_icmp_ne (tgt := 38) hx hb dX7_fewest_33 (by decide) (fun _ => ?_) (fun q9 => absurd q9 (by decide +kernel))
    refine lv_iload_n hx hb dX7_fewest_38 rfl (lv_at hl 2 rfl) ?_
    refine lv_if_ne (tgt := 49) hx hb dX7_fewest_39 (by decide) (fun _ => ?_) (fun q9 => absurd q9 (by decide +kernel))
    refine lv_iload_n hx hb dX7_fewest_49 rfl (lv_at hl 2 rfl) ?_
    refine lv_iconst (v := 1) hx hb dX7_fewest_50 (by decide +kernel) ?_
    refine lv_icmp_ne (tgt := 61) hx hb dX7_fewest_51 (by decide) (fun _ => ?_) (fun q9 => absurd q9 (by decide +kernel))
    refine lv_iload_n hx hb dX7_fewest_61 rfl (lv_at hl 2 rfl) ?_
    refine lv_iconst (v := 2) hx hb dX7_fewest_62 (by decide +kernel) ?_
    refine lv_icmp_ne (tgt := 73) hx hb dX7_fewest_63 (by decide) (fun q9 => absurd q9 (by decide +kernel)) (fun _ => ?_)
    refine lv_aload_n hx hb dX7_fewest_66 rfl (lv_at hl 0 rfl) ?_
    refine k_get (D := (dC, dI)) (ci := 7) (v := .int 0) (C := RX7) (T := TX7) (N := 92) hx hb hts hinX7 hown hK hP 0 rfl rfl 76 (by decide) w_3 rfl rfl dX7_fewest_67 ?_
    refine lv_goto (tgt := 101) hx hb dX7_fewest_70 (by decide) ?_
    exact k_ri B hP hD hS dX7_fewest_101 (2, (fun _ => 0)) [0, 4, 1, 2, 3, 5] rfl rfl rfl (Nat.le_of_ble_eq_true rfl) (Nat.le_of_ble_eq_true rfl) ⟨c_1, c_7, c_8, rfl⟩
  · exact False.elim hw
set_option maxHeartbeats 4000000 in
set_option maxRecDepth 100000 in
theorem c_X7_is_v18 (l : Launch) (dC : Nat → ClassId) (dI : Nat → Nat → Nat) (cI cJ cZ cM : ClassId) (p0 : Int32) (b_0 : -2147483648 ≤ p0.toInt) (t_0 : p0.toInt ≤ 9)  : k_Mi l yX7_is wsX7_is ({ frames := 1, cells := 0, slots := 0, locals := 40 }) (dC, dI) vwCl (tyy cI cJ cZ cM) [] [.int p0, .int 10, .int 9] 0 0 (fun (u9 : Unit) => []) (fun (r9 : Int32) (u9 : Unit) => r9 = 0) := by
  refine fun sz => k_enter (cc := cX7_is) (maxL := 3) (ret := some (.boolean)) (Qc := fun A => va_Qi (fun (r9 : Int32) (u9 : Unit) => r9 = 0) (fun u => k_B (dC, dI) vwCl (tyy cI cJ cZ cM) A ((fun (u9 : Unit) => []) u)) A) sz (by decide +kernel) rfl (Nat.le_of_ble_eq_true rfl) (fun p e s m args below meth c A ls H locs B hP hD hS hl => ?_)
  obtain ⟨hx, hb, hml, hown, hts, hr, hlk, hnm, hK, hA, hN, hC⟩ := id B
  have hown : s.vm.findClass RX7 = some m.cls := hown
  have hl : lv_has ls 3 [(0, .int p0), (1, .int 10), (2, .int 9)] := hl
  refine lv_iload_n hx hb dX7_is_0 rfl (lv_at hl 0 rfl) ?_
  refine lv_iload_n hx hb dX7_is_1 rfl (lv_at hl 1 rfl) ?_
  refine lv_icmp_lt (tgt := 14) hx hb dX7_is_2 (by decide) (fun c_1 => ?_) (fun c_1 => ?_)
  · have c_1 : p0.toInt < 10 := k_ltT rfl (by decide +kernel) c_1
    refine lv_iconst (v := 0) hx hb dX7_is_14 (by decide +kernel) ?_
    exact k_ri B hP hD hS dX7_is_15 () [] rfl rfl rfl (Nat.le_of_ble_eq_true rfl) (Nat.le_of_ble_eq_true rfl) rfl
  · have c_1 : 10 ≤ p0.toInt := k_ltF rfl (by decide +kernel) c_1
    exfalso; omega
set_option maxHeartbeats 4000000 in
set_option maxRecDepth 100000 in
theorem c_X7_fewest_v4 (l : Launch) (dC : Nat → ClassId) (dI : Nat → Nat → Nat) (cI cJ cZ cM : ClassId) (p0 : Nat) (p1 : Int32) (p2 : Int32) (p3 : Nat → Nat) (b_0 : -2147483648 ≤ p2.toInt) (t_0 : p2.toInt ≤ 9)  : k_Mi l yX7_fewest wsX7_fewest ({ frames := 4, cells := 0, slots := 0, locals := 112 }) (dC, dI) vwCl (tyy cI cJ cZ cM) [(p0, .inr (7, oM p3 i7 j7)), ((p3 14), .inl (cI, 2, .inl (fun _ => 0))), ((p3 49), .inl (cI, 22, .inl (fun _ => 0))), ((p3 50), .inl (cI, 22, .inl (fun _ => 0))), ((p3 72), .inl (cI, 9216, .inl (fun _ => 0))), ((p3 18), .inl (cI, 2, .inl (fun _ => 0)))] [.ref p0, .int p1, .int p2] 0 0 (fun (u9 : (Nat × (Nat → Nat))) => match u9.1 with | 0 => [(p0, .inr (7, oM p3 i7 j7)), ((p3 14), .inl (cI, 2, .inl (fun _ => 0))), ((p3 49), .inl (cI, 22, .inl (fun _ => 0))), ((p3 50), .inl (cI, 22, .inl (fun _ => 0))), ((p3 72), .inl (cI, 9216, .inl (fun _ => 0))), ((p3 18), .inl (cI, 2, .inl (fun _ => 0)))] | 1 => [(p0, .inr (7, oM p3 i7 j7)), ((p3 14), .inl (cI, 2, .inl (fun _ => 0))), ((p3 49), .inl (cI, 22, .inl (fun _ => 0))), ((p3 50), .inl (cI, 22, .inl (fun _ => 0))), ((p3 72), .inl (cI, 9216, .inl (fun _ => 0))), ((p3 18), .inl (cI, 2, .inl (fun _ => 0)))] | 2 => [(p0, .inr (7, oM p3 (upd (upd i7 75 0) 76 0) j7)), ((p3 14), .inl (cI, 2, .inl (fun _ => 0))), ((p3 49), .inl (cI, 22, .inl (fun _ => 0))), ((p3 50), .inl (cI, 22, .inl (fun _ => 0))), ((p3 72), .inl (cI, 9216, .inl (upd (fun _ => (-1)) 0 0))), ((p3 18), .inl (cI, 2, .inl (fun _ => 0)))] | 3 => [(p0, .inr (7, oM p3 (upd (upd i7 75 0) 76 0) j7)), ((p3 14), .inl (cI, 2, .inl (fun _ => 0))), ((p3 49), .inl (cI, 22, .inl (fun _ => 0))), ((p3 50), .inl (cI, 22, .inl (fun _ => 0))), ((p3 72), .inl (cI, 9216, .inl (upd (fun _ => (-1)) 0 0))), ((p3 18), .inl (cI, 2, .inl (fun _ => 0)))] | 4 => [(p0, .inr (7, oM p3 (upd (upd i7 75 0) 76 0) j7)), ((p3 14), .inl (cI, 2, .inl (fun _ => 0))), ((p3 49), .inl (cI, 22, .inl (fun _ => 0))), ((p3 50), .inl (cI, 22, .inl (fun _ => 0))), ((p3 72), .inl (cI, 9216, .inl (upd (fun _ => (-1)) 0 0))), ((p3 18), .inl (cI, 2, .inl (fun _ => 0)))] | 5 => [(p0, .inr (7, oM p3 (upd (upd i7 75 0) 76 0) j7)), ((p3 14), .inl (cI, 2, .inl (fun _ => 0))), ((p3 49), .inl (cI, 22, .inl (fun _ => 0))), ((p3 50), .inl (cI, 22, .inl (fun _ => 0))), ((p3 72), .inl (cI, 9216, .inl (upd (fun _ => (-1)) 0 0))), ((p3 18), .inl (cI, 2, .inl (fun _ => 0)))] | _ => []) (fun (r9 : Int32) (u9 : (Nat × (Nat → Nat))) => match u9.1 with | 0 => (p1.toInt < 0) ∧ r9 = (-1) | 1 => (0 ≤ p1.toInt) ∧ (0 < p1.toInt) ∧ r9 = (-1) | 2 => (0 ≤ p1.toInt) ∧ (p1.toInt ≤ 0) ∧ (¬ p2.toInt = 0) ∧ (¬ p2.toInt = 1) ∧ (¬ p2.toInt = 2) ∧ r9 = (-1) | 3 => (0 ≤ p1.toInt) ∧ (p1.toInt ≤ 0) ∧ (¬ p2.toInt = 0) ∧ (¬ p2.toInt = 1) ∧ (p2.toInt = 2) ∧ r9 = 0 | 4 => (0 ≤ p1.toInt) ∧ (p1.toInt ≤ 0) ∧ (¬ p2.toInt = 0) ∧ (p2.toInt = 1) ∧ r9 = 0 | 5 => (0 ≤ p1.toInt) ∧ (p1.toInt ≤ 0) ∧ (p2.toInt = 0) ∧ r9 = 0 | _ => False) := by
  refine fun sz => k_enter (cc := cX7_fewest) (maxL := 3) (ret := some (.int)) (Qc := fun A => va_Qi (fun (r9 : Int32) (u9 : (Nat × (Nat → Nat))) => match u9.1 with | 0 => (p1.toInt < 0) ∧ r9 = (-1) | 1 => (0 ≤ p1.toInt) ∧ (0 < p1.toInt) ∧ r9 = (-1) | 2 => (0 ≤ p1.toInt) ∧ (p1.toInt ≤ 0) ∧ (¬ p2.toInt = 0) ∧ (¬ p2.toInt = 1) ∧ (¬ p2.toInt = 2) ∧ r9 = (-1) | 3 => (0 ≤ p1.toInt) ∧ (p1.toInt ≤ 0) ∧ (¬ p2.toInt = 0) ∧ (¬ p2.toInt = 1) ∧ (p2.toInt = 2) ∧ r9 = 0 | 4 => (0 ≤ p1.toInt) ∧ (p1.toInt ≤ 0) ∧ (¬ p2.toInt = 0) ∧ (p2.toInt = 1) ∧ r9 = 0 | 5 => (0 ≤ p1.toInt) ∧ (p1.toInt ≤ 0) ∧ (p2.toInt = 0) ∧ r9 = 0 | _ => False) (fun u => k_B (dC, dI) vwCl (tyy cI cJ cZ cM) A ((fun (u9 : (Nat × (Nat → Nat))) => match u9.1 with | 0 => [(p0, .inr (7, oM p3 i7 j7)), ((p3 14), .inl (cI, 2, .inl (fun _ => 0))), ((p3 49), .inl (cI, 22, .inl (fun _ => 0))), ((p3 50), .inl (cI, 22, .inl (fun _ => 0))), ((p3 72), .inl (cI, 9216, .inl (fun _ => 0))), ((p3 18), .inl (cI, 2, .inl (fun _ => 0)))] | 1 => [(p0, .inr (7, oM p3 i7 j7)), ((p3 14), .inl (cI, 2, .inl (fun _ => 0))), ((p3 49), .inl (cI, 22, .inl (fun _ => 0))), ((p3 50), .inl (cI, 22, .inl (fun _ => 0))), ((p3 72), .inl (cI, 9216, .inl (fun _ => 0))), ((p3 18), .inl (cI, 2, .inl (fun _ => 0)))] | 2 => [(p0, .inr (7, oM p3 (upd (upd i7 75 0) 76 0) j7)), ((p3 14), .inl (cI, 2, .inl (fun _ => 0))), ((p3 49), .inl (cI, 22, .inl (fun _ => 0))), ((p3 50), .inl (cI, 22, .inl (fun _ => 0))), ((p3 72), .inl (cI, 9216, .inl (upd (fun _ => (-1)) 0 0))), ((p3 18), .inl (cI, 2, .inl (fun _ => 0)))] | 3 => [(p0, .inr (7, oM p3 (upd (upd i7 75 0) 76 0) j7)), ((p3 14), .inl (cI, 2, .inl (fun _ => 0))), ((p3 49), .inl (cI, 22, .inl (fun _ => 0))), ((p3 50), .inl (cI, 22, .inl (fun _ => 0))), ((p3 72), .inl (cI, 9216, .inl (upd (fun _ => (-1)) 0 0))), ((p3 18), .inl (cI, 2, .inl (fun _ => 0)))] | 4 => [(p0, .inr (7, oM p3 (upd (upd i7 75 0) 76 0) j7)), ((p3 14), .inl (cI, 2, .inl (fun _ => 0))), ((p3 49), .inl (cI, 22, .inl (fun _ => 0))), ((p3 50), .inl (cI, 22, .inl (fun _ => 0))), ((p3 72), .inl (cI, 9216, .inl (upd (fun _ => (-1)) 0 0))), ((p3 18), .inl (cI, 2, .inl (fun _ => 0)))] | 5 => [(p0, .inr (7, oM p3 (upd (upd i7 75 0) 76 0) j7)), ((p3 14), .inl (cI, 2, .inl (fun _ => 0))), ((p3 49), .inl (cI, 22, .inl (fun _ => 0))), ((p3 50), .inl (cI, 22, .inl (fun _ => 0))), ((p3 72), .inl (cI, 9216, .inl (upd (fun _ => (-1)) 0 0))), ((p3 18), .inl (cI, 2, .inl (fun _ => 0)))] | _ => []) u)) A) sz (by decide +kernel) rfl (Nat.le_of_ble_eq_true rfl) (fun p e s m args below meth c A ls H locs B hP hD hS hl => ?_)
  obtain ⟨hx, hb, hml, hown, hts, hr, hlk, hnm, hK, hA, hN, hC⟩ := id B
  have hown : s.vm.findClass RX7 = some m.cls := hown
  have hl : lv_has ls 3 [(0, .ref p0), (1, .int p1), (2, .int p2)] := hl
  have w_0 : (Cond.fieldLink RX7 54 "WishSeaModel" "things" "[I").before args s = true := hts _ (List.mem_of_getElem? (i := 1) rfl)
  have w_1 : (Cond.fieldLink RX7 51 "WishSeaModel" "bank" "I").before args s = true := hts _ (List.mem_of_getElem? (i := 2) rfl)
  have w_2 : (Cond.fieldLink RX7 240 "WishSeaModel" "foundRung" "I").before args s = true := hts _ (List.mem_of_getElem? (i := 3) rfl)
  have w_3 : (Cond.fieldLink RX7 243 "WishSeaModel" "foundSet" "I").before args s = true := hts _ (List.mem_of_getElem? (i := 4) rfl)
  have hinX7 : ∀ w ∈ u_ws RX7 TX7 92, w ∈ wsX7_fewest := fun _ h => List.mem_cons_of_mem _ (List.mem_append_right _ h)
  refine lv_iload_n hx hb dX7_fewest_0 rfl (lv_at hl 1 rfl) ?_
  refine lv_iconst (v := 0) hx hb dX7_fewest_1 (by decide +kernel) ?_
  refine lv_iconst (v := 1) hx hb dX7_fewest_2 (by decide +kernel) ?_
  refine lv_aload_n hx hb dX7_fewest_3 rfl (lv_at hl 0 rfl) ?_
  refine k_get (D := (dC, dI)) (ci := 7) (v := .ref (p3 14)) (C := RX7) (T := TX7) (N := 92) hx hb hts hinX7 hown hK hP 0 rfl rfl 14 (by decide) w_0 rfl rfl dX7_fewest_4 ?_
  refine lv_aload_n hx hb dX7_fewest_7 rfl (lv_at hl 0 rfl) ?_
  refine k_get (D := (dC, dI)) (ci := 7) (v := .int 0) (C := RX7) (T := TX7) (N := 92) hx hb hts hinX7 hown hK hP 0 rfl rfl 13 (by decide) w_1 rfl rfl dX7_fewest_8 ?_
  refine k_iald (v := 0) hx hb hK hP 1 0 0 rfl rfl rfl (Nat.le_of_ble_eq_true rfl) (Nat.le_of_ble_eq_true rfl) rfl dX7_fewest_11 ?_
  refine lv_ishl hx hb dX7_fewest_12 ?_
  refine k_int (v := 1) (by decide +kernel) ?_
  refine lv_iconst (v := 1) hx hb dX7_fewest_13 (by decide +kernel) ?_
  refine lv_isub hx hb dX7_fewest_14 ?_
  refine k_int (v := 0) (by decide +kernel) ?_
  refine k_ci (wc := []) (wr := [(p0, .inr (7, oM p3 i7 j7)), ((p3 14), .inl (cI, 2, .inl (fun _ => 0))), ((p3 49), .inl (cI, 22, .inl (fun _ => 0))), ((p3 50), .inl (cI, 22, .inl (fun _ => 0))), ((p3 72), .inl (cI, 9216, .inl (fun _ => 0))), ((p3 18), .inl (cI, 2, .inl (fun _ => 0)))]) (fun hPc hDc hFc => va_runS (As := [.int p1, .int 0, .int 0]) (rest := []) ⟨hx, hb, hml, hown, hts⟩ (c_X7_is_v16 l dC dI cI cJ cZ cM p1 H.size) (va_cwS 3 hts gX7_fewest_X7_is rfl rfl rfl (by decide +kernel) ⟨(Nat.le_of_ble_eq_true rfl), (Nat.le_of_ble_eq_true rfl)⟩) (k_pS hPc hDc hK hN hC hS hFc) rfl rfl hl.1 rfl (lv_room (Nat.le_of_ble_eq_true rfl)) dX7_fewest_15 ⟨(Nat.le_of_ble_eq_true rfl), (Nat.le_of_ble_eq_true rfl)⟩) hP hD hS hA [] [0, 1, 2, 3, 4, 5] rfl rfl rfl rfl (by decide) (fun _ => rfl) 0 0 rfl rfl (fun r_1 u_2 H locs hw hP hD hS => ?_)
  obtain ⟨k_u_2, u_u_2⟩ := u_2
  rcases k_u_2 with _ | _ | _ | k_u_2
  · obtain ⟨c_3, rfl⟩ : (p1.toInt < 0) ∧ r_1 = 0 := hw
    have hP : va_P (dC, dI) vwCl [(p0, .inr (7, oM p3 i7 j7)), ((p3 14), .inl (cI, 2, .inl (fun _ => 0))), ((p3 49), .inl (cI, 22, .inl (fun _ => 0))), ((p3 50), .inl (cI, 22, .inl (fun _ => 0))), ((p3 72), .inl (cI, 9216, .inl (fun _ => 0))), ((p3 18), .inl (cI, 2, .inl (fun _ => 0)))] H := hP
    have hD : va_D A [(p0, .inr (7, oM p3 i7 j7)), ((p3 14), .inl (cI, 2, .inl (fun _ => 0))), ((p3 49), .inl (cI, 22, .inl (fun _ => 0))), ((p3 50), .inl (cI, 22, .inl (fun _ => 0))), ((p3 72), .inl (cI, 9216, .inl (fun _ => 0))), ((p3 18), .inl (cI, 2, .inl (fun _ => 0)))] := hD
    refine lv_if_ne (tgt := 23) hx hb dX7_fewest_18 (by decide) (fun q9 => absurd q9 (by decide +kernel)) (fun _ => ?_)
    refine lv_iconst (v := (-1)) hx hb dX7_fewest_21 (by decide +kernel) ?_
    exact k_ri B hP hD hS dX7_fewest_22 (0, (fun _ => 0)) [0, 1, 2, 3, 4, 5] rfl rfl rfl (Nat.le_of_ble_eq_true rfl) (Nat.le_of_ble_eq_true rfl) ⟨c_3, rfl⟩
  · obtain ⟨c_4, c_5, rfl⟩ : (0 ≤ p1.toInt) ∧ (0 < p1.toInt) ∧ r_1 = 0 := hw
    have hP : va_P (dC, dI) vwCl [(p0, .inr (7, oM p3 i7 j7)), ((p3 14), .inl (cI, 2, .inl (fun _ => 0))), ((p3 49), .inl (cI, 22, .inl (fun _ => 0))), ((p3 50), .inl (cI, 22, .inl (fun _ => 0))), ((p3 72), .inl (cI, 9216, .inl (fun _ => 0))), ((p3 18), .inl (cI, 2, .inl (fun _ => 0)))] H := hP
    have hD : va_D A [(p0, .inr (7, oM p3 i7 j7)), ((p3 14), .inl (cI, 2, .inl (fun _ => 0))), ((p3 49), .inl (cI, 22, .inl (fun _ => 0))), ((p3 50), .inl (cI, 22, .inl (fun _ => 0))), ((p3 72), .inl (cI, 9216, .inl (fun _ => 0))), ((p3 18), .inl (cI, 2, .inl (fun _ => 0)))] := hD
    refine lv_if_ne (tgt := 23) hx hb dX7_fewest_18 (by decide) (fun q9 => absurd q9 (by decide +kernel)) (fun _ => ?_)
    refine lv_iconst (v := (-1)) hx hb dX7_fewest_21 (by decide +kernel) ?_
    exact k_ri B hP hD hS dX7_fewest_22 (1, (fun _ => 0)) [0, 1, 2, 3, 4, 5] rfl rfl rfl (Nat.le_of_ble_eq_true rfl) (Nat.le_of_ble_eq_true rfl) ⟨c_4, c_5, rfl⟩
  · obtain ⟨c_6, c_7, rfl⟩ : (0 ≤ p1.toInt) ∧ (p1.toInt ≤ 0) ∧ r_1 = 1 := hw
    have hP : va_P (dC, dI) vwCl [(p0, .inr (7, oM p3 i7 j7)), ((p3 14), .inl (cI, 2, .inl (fun _ => 0))), ((p3 49), .inl (cI, 22, .inl (fun _ => 0))), ((p3 50), .inl (cI, 22, .inl (fun _ => 0))), ((p3 72), .inl (cI, 9216, .inl (fun _ => 0))), ((p3 18), .inl (cI, 2, .inl (fun _ => 0)))] H := hP
    have hD : va_D A [(p0, .inr (7, oM p3 i7 j7)), ((p3 14), .inl (cI, 2, .inl (fun _ => 0))), ((p3 49), .inl (cI, 22, .inl (fun _ => 0))), ((p3 50), .inl (cI, 22, .inl (fun _ => 0))), ((p3 72), .inl (cI, 9216, .inl (fun _ => 0))), ((p3 18), .inl (cI, 2, .inl (fun _ => 0)))] := hD
    refine lv_if_ne (tgt := 23) hx hb dX7_fewest_18 (by decide) (fun _ => ?_) (fun q9 => absurd q9 (by decide +kernel))
    refine lv_aload_n hx hb dX7_fewest_23 rfl (lv_at hl 0 rfl) ?_
    refine lv_iload_n hx hb dX7_fewest_24 rfl (lv_at hl 1 rfl) ?_
    refine k_cv (wc := [(p0, .inr (7, oM p3 i7 j7)), ((p3 49), .inl (cI, 22, .inl (fun _ => 0))), ((p3 50), .inl (cI, 22, .inl (fun _ => 0))), ((p3 72), .inl (cI, 9216, .inl (fun _ => 0))), ((p3 14), .inl (cI, 2, .inl (fun _ => 0))), ((p3 18), .inl (cI, 2, .inl (fun _ => 0)))]) (wr := []) (fun hPc hDc hFc => va_runV (As := [.int p1]) (rest := []) ⟨hx, hb, hml, hown, hts⟩ (c_X7_finds_v0 l dC dI cI cJ cZ cM p0 p1 p3 (by omega) (by omega) H.size) (cwV 1 hts gX7_fewest_X7_finds rfl rfl rfl (by decide +kernel) ⟨(Nat.le_of_ble_eq_true rfl), (Nat.le_of_ble_eq_true rfl)⟩) (k_pV hPc hDc hK hN hC hS hFc hP (q0 := 0) (ci := 7) rfl rfl) rfl rfl hl.1 rfl (lv_room (Nat.le_of_ble_eq_true rfl)) dX7_fewest_25 ⟨(Nat.le_of_ble_eq_true rfl), (Nat.le_of_ble_eq_true rfl)⟩) hP hD hS hA [0, 2, 3, 4, 1, 5] [] rfl rfl rfl rfl (by decide) (fun _ => rfl) 0 0 rfl rfl (fun u_9 H locs hw hP hD hS => ?_)
    have hP : va_P (dC, dI) vwCl [(p0, .inr (7, oM p3 (upd (upd i7 75 0) 76 0) j7)), ((p3 49), .inl (cI, 22, .inl (fun _ => 0))), ((p3 50), .inl (cI, 22, .inl (fun _ => 0))), ((p3 72), .inl (cI, 9216, .inl (upd (fun _ => (-1)) 0 0))), ((p3 14), .inl (cI, 2, .inl (fun _ => 0))), ((p3 18), .inl (cI, 2, .inl (fun _ => 0)))] H := hP
    have hD : va_D A [(p0, .inr (7, oM p3 (upd (upd i7 75 0) 76 0) j7)), ((p3 49), .inl (cI, 22, .inl (fun _ => 0))), ((p3 50), .inl (cI, 22, .inl (fun _ => 0))), ((p3 72), .inl (cI, 9216, .inl (upd (fun _ => (-1)) 0 0))), ((p3 14), .inl (cI, 2, .inl (fun _ => 0))), ((p3 18), .inl (cI, 2, .inl (fun _ => 0)))] := hD
    refine lv_aload_n hx hb dX7_fewest_28 rfl (lv_at hl 0 rfl) ?_
    refine k_get (D := (dC, dI)) (ci := 7) (v := .int 0) (C := RX7) (T := TX7) (N := 92) hx hb hts hinX7 hown hK hP 0 rfl rfl 75 (by decide) w_2 rfl rfl dX7_fewest_29 ?_
    refine lv_iconst (v := (-1)) hx hb dX7_fewest_32 (by decide +kernel) ?_
    refine lv_icmp_ne (tgt := 38) hx hb dX7_fewest_33 (by decide) (fun _ => ?_) (fun q9 => absurd q9 (by decide +kernel))
    refine lv_iload_n hx hb dX7_fewest_38 rfl (lv_at hl 2 rfl) ?_
    refine lv_if_ne (tgt := 49) hx hb dX7_fewest_39 (by decide) (fun c_10 => ?_) (fun c_10 => ?_)
    · have c_10 : ¬ p2.toInt = 0 := k_eqF rfl (by decide +kernel) c_10
      refine lv_iload_n hx hb dX7_fewest_49 rfl (lv_at hl 2 rfl) ?_
      refine lv_iconst (v := 1) hx hb dX7_fewest_50 (by decide +kernel) ?_
      refine lv_icmp_ne (tgt := 61) hx hb dX7_fewest_51 (by decide) (fun c_11 => ?_) (fun c_11 => ?_)
      · have c_11 : ¬ p2.toInt = 1 := k_eqF rfl (by decide +kernel) c_11
        refine lv_iload_n hx hb dX7_fewest_61 rfl (lv_at hl 2 rfl) ?_
        refine lv_iconst (v := 2) hx hb dX7_fewest_62 (by decide +kernel) ?_
        refine lv_icmp_ne (tgt := 73) hx hb dX7_fewest_63 (by decide) (fun c_12 => ?_) (fun c_12 => ?_)
        · have c_12 : ¬ p2.toInt = 2 := k_eqF rfl (by decide +kernel) c_12
          refine lv_iload_n hx hb dX7_fewest_73 rfl (lv_at hl 2 rfl) ?_
          refine lv_bipush (v := 10) hx hb dX7_fewest_74 (by decide +kernel) ?_
          refine lv_bipush (v := 9) hx hb dX7_fewest_76 (by decide +kernel) ?_
          refine lv_aload_n hx hb dX7_fewest_78 rfl (lv_at hl 0 rfl) ?_
          refine k_get (D := (dC, dI)) (ci := 7) (v := .int 0) (C := RX7) (T := TX7) (N := 92) hx hb hts hinX7 hown hK hP 0 rfl rfl 75 (by decide) w_2 rfl rfl dX7_fewest_79 ?_
          refine lv_iadd hx hb dX7_fewest_82 ?_
          refine k_int (v := 9) (by decide +kernel) ?_
          refine k_ci (wc := []) (wr := [(p0, .inr (7, oM p3 (upd (upd i7 75 0) 76 0) j7)), ((p3 49), .inl (cI, 22, .inl (fun _ => 0))), ((p3 50), .inl (cI, 22, .inl (fun _ => 0))), ((p3 72), .inl (cI, 9216, .inl (upd (fun _ => (-1)) 0 0))), ((p3 14), .inl (cI, 2, .inl (fun _ => 0))), ((p3 18), .inl (cI, 2, .inl (fun _ => 0)))]) (fun hPc hDc hFc => va_runS (As := [.int p2, .int 10, .int 9]) (rest := []) ⟨hx, hb, hml, hown, hts⟩ (c_X7_is_v18 l dC dI cI cJ cZ cM p2 (by omega) (by omega) H.size) (va_cwS 3 hts gX7_fewest_X7_is rfl rfl rfl (by decide +kernel) ⟨(Nat.le_of_ble_eq_true rfl), (Nat.le_of_ble_eq_true rfl)⟩) (k_pS hPc hDc hK hN hC hS hFc) rfl rfl hl.1 rfl (lv_room (Nat.le_of_ble_eq_true rfl)) dX7_fewest_83 ⟨(Nat.le_of_ble_eq_true rfl), (Nat.le_of_ble_eq_true rfl)⟩) hP hD hS hA [] [0, 1, 2, 3, 4, 5] rfl rfl rfl rfl (by decide) (fun _ => rfl) 0 0 rfl rfl (fun r_13 u_14 H locs hw hP hD hS => ?_)
          obtain rfl : r_13 = 0 := hw
          have hP : va_P (dC, dI) vwCl [(p0, .inr (7, oM p3 (upd (upd i7 75 0) 76 0) j7)), ((p3 49), .inl (cI, 22, .inl (fun _ => 0))), ((p3 50), .inl (cI, 22, .inl (fun _ => 0))), ((p3 72), .inl (cI, 9216, .inl (upd (fun _ => (-1)) 0 0))), ((p3 14), .inl (cI, 2, .inl (fun _ => 0))), ((p3 18), .inl (cI, 2, .inl (fun _ => 0)))] H := hP
          have hD : va_D A [(p0, .inr (7, oM p3 (upd (upd i7 75 0) 76 0) j7)), ((p3 49), .inl (cI, 22, .inl (fun _ => 0))), ((p3 50), .inl (cI, 22, .inl (fun _ => 0))), ((p3 72), .inl (cI, 9216, .inl (upd (fun _ => (-1)) 0 0))), ((p3 14), .inl (cI, 2, .inl (fun _ => 0))), ((p3 18), .inl (cI, 2, .inl (fun _ => 0)))] := hD
          refine lv_if_eq (tgt := 100) hx hb dX7_fewest_86 (by decide) (fun _ => ?_) (fun q9 => absurd q9 (by decide +kernel))
          refine lv_iconst (v := (-1)) hx hb dX7_fewest_100 (by decide +kernel) ?_
          exact k_ri B hP hD hS dX7_fewest_101 (2, (fun _ => 0)) [0, 4, 1, 2, 3, 5] rfl rfl rfl (Nat.le_of_ble_eq_true rfl) (Nat.le_of_ble_eq_true rfl) ⟨c_6, c_7, c_10, c_11, c_12, rfl⟩
        · have c_12 : p2.toInt = 2 := k_eqT rfl (by decide +kernel) c_12
          refine lv_aload_n hx hb dX7_fewest_66 rfl (lv_at hl 0 rfl) ?_
          refine k_get (D := (dC, dI)) (ci := 7) (v := .int 0) (C := RX7) (T := TX7) (N := 92) hx hb hts hinX7 hown hK hP 0 rfl rfl 76 (by decide) w_3 rfl rfl dX7_fewest_67 ?_
          refine lv_goto (tgt := 101) hx hb dX7_fewest_70 (by decide) ?_
          exact k_ri B hP hD hS dX7_fewest_101 (3, (fun _ => 0)) [0, 4, 1, 2, 3, 5] rfl rfl rfl (Nat.le_of_ble_eq_true rfl) (Nat.le_of_ble_eq_true rfl) ⟨c_6, c_7, c_10, c_11, c_12, rfl⟩
      · have c_11 : p2.toInt = 1 := k_eqT rfl (by decide +kernel) c_11
        refine lv_aload_n hx hb dX7_fewest_54 rfl (lv_at hl 0 rfl) ?_
        refine k_ci (wc := [(p0, .inr (7, oM p3 (upd (upd i7 75 0) 76 0) j7)), ((p3 72), .inl (cI, 9216, .inl (upd (fun _ => (-1)) 0 0)))]) (wr := [((p3 49), .inl (cI, 22, .inl (fun _ => 0))), ((p3 50), .inl (cI, 22, .inl (fun _ => 0))), ((p3 14), .inl (cI, 2, .inl (fun _ => 0))), ((p3 18), .inl (cI, 2, .inl (fun _ => 0)))]) (fun hPc hDc hFc => va_runV (As := []) (rest := []) ⟨hx, hb, hml, hown, hts⟩ (c_X7_foundSea_v0 l dC dI cI cJ cZ cM p0 p3 H.size) (cwV 0 hts gX7_fewest_X7_foundSea rfl rfl rfl (by decide +kernel) ⟨(Nat.le_of_ble_eq_true rfl), (Nat.le_of_ble_eq_true rfl)⟩) (k_pV hPc hDc hK hN hC hS hFc hP (q0 := 0) (ci := 7) rfl rfl) rfl rfl hl.1 rfl (lv_room (Nat.le_of_ble_eq_true rfl)) dX7_fewest_55 ⟨(Nat.le_of_ble_eq_true rfl), (Nat.le_of_ble_eq_true rfl)⟩) hP hD hS hA [0, 3] [1, 2, 4, 5] rfl rfl rfl rfl (by decide) (fun _ => rfl) 0 0 rfl rfl (fun r_15 u_16 H locs hw hP hD hS => ?_)
        obtain rfl : r_15 = 0 := hw
        have hP : va_P (dC, dI) vwCl [((p3 49), .inl (cI, 22, .inl (fun _ => 0))), ((p3 50), .inl (cI, 22, .inl (fun _ => 0))), ((p3 14), .inl (cI, 2, .inl (fun _ => 0))), ((p3 18), .inl (cI, 2, .inl (fun _ => 0))), (p0, .inr (7, oM p3 (upd (upd i7 75 0) 76 0) j7)), ((p3 72), .inl (cI, 9216, .inl (upd (fun _ => (-1)) 0 0)))] H := hP
        have hD : va_D A [((p3 49), .inl (cI, 22, .inl (fun _ => 0))), ((p3 50), .inl (cI, 22, .inl (fun _ => 0))), ((p3 14), .inl (cI, 2, .inl (fun _ => 0))), ((p3 18), .inl (cI, 2, .inl (fun _ => 0))), (p0, .inr (7, oM p3 (upd (upd i7 75 0) 76 0) j7)), ((p3 72), .inl (cI, 9216, .inl (upd (fun _ => (-1)) 0 0)))] := hD
        refine lv_goto (tgt := 101) hx hb dX7_fewest_58 (by decide) ?_
        exact k_ri B hP hD hS dX7_fewest_101 (4, (fun _ => 0)) [4, 2, 0, 1, 5, 3] rfl rfl rfl (Nat.le_of_ble_eq_true rfl) (Nat.le_of_ble_eq_true rfl) ⟨c_6, c_7, c_10, c_11, rfl⟩
    · have c_10 : p2.toInt = 0 := k_eqT rfl (by decide +kernel) c_10
      refine lv_aload_n hx hb dX7_fewest_42 rfl (lv_at hl 0 rfl) ?_
      refine k_get (D := (dC, dI)) (ci := 7) (v := .int 0) (C := RX7) (T := TX7) (N := 92) hx hb hts hinX7 hown hK hP 0 rfl rfl 75 (by decide) w_2 rfl rfl dX7_fewest_43 ?_
      refine lv_goto (tgt := 101) hx hb dX7_fewest_46 (by decide) ?_
      exact k_ri B hP hD hS dX7_fewest_101 (5, (fun _ => 0)) [0, 4, 1, 2, 3, 5] rfl rfl rfl (Nat.le_of_ble_eq_true rfl) (Nat.le_of_ble_eq_true rfl) ⟨c_6, c_7, c_10, rfl⟩
  · exact False.elim hw
set_option maxHeartbeats 4000000 in
set_option maxRecDepth 100000 in
theorem c_X7_is_v19 (l : Launch) (dC : Nat → ClassId) (dI : Nat → Nat → Nat) (cI cJ cZ cM : ClassId) (p0 : Int32) (b_0 : 10 ≤ p0.toInt) (t_0 : p0.toInt ≤ 2147483647)  : k_Mi l yX7_is wsX7_is ({ frames := 1, cells := 0, slots := 0, locals := 40 }) (dC, dI) vwCl (tyy cI cJ cZ cM) [] [.int p0, .int 10, .int 9] 0 0 (fun (u9 : Unit) => []) (fun (r9 : Int32) (u9 : Unit) => r9 = 0) := by
  refine fun sz => k_enter (cc := cX7_is) (maxL := 3) (ret := some (.boolean)) (Qc := fun A => va_Qi (fun (r9 : Int32) (u9 : Unit) => r9 = 0) (fun u => k_B (dC, dI) vwCl (tyy cI cJ cZ cM) A ((fun (u9 : Unit) => []) u)) A) sz (by decide +kernel) rfl (Nat.le_of_ble_eq_true rfl) (fun p e s m args below meth c A ls H locs B hP hD hS hl => ?_)
  obtain ⟨hx, hb, hml, hown, hts, hr, hlk, hnm, hK, hA, hN, hC⟩ := id B
  have hown : s.vm.findClass RX7 = some m.cls := hown
  have hl : lv_has ls 3 [(0, .int p0), (1, .int 10), (2, .int 9)] := hl
  refine lv_iload_n hx hb dX7_is_0 rfl (lv_at hl 0 rfl) ?_
  refine lv_iload_n hx hb dX7_is_1 rfl (lv_at hl 1 rfl) ?_
  refine lv_icmp_lt (tgt := 14) hx hb dX7_is_2 (by decide) (fun c_1 => ?_) (fun c_1 => ?_)
  · have c_1 : p0.toInt < 10 := k_ltT rfl (by decide +kernel) c_1
    exfalso; omega
  · have c_1 : 10 ≤ p0.toInt := k_ltF rfl (by decide +kernel) c_1
    refine lv_iload_n hx hb dX7_is_5 rfl (lv_at hl 0 rfl) ?_
    refine lv_iload_n hx hb dX7_is_6 rfl (lv_at hl 2 rfl) ?_
    refine lv_icmp_gt (tgt := 14) hx hb dX7_is_7 (by decide) (fun c_2 => ?_) (fun c_2 => ?_)
    · have c_2 : 9 < p0.toInt := k_ltT (by decide +kernel) rfl c_2
      refine lv_iconst (v := 0) hx hb dX7_is_14 (by decide +kernel) ?_
      exact k_ri B hP hD hS dX7_is_15 () [] rfl rfl rfl (Nat.le_of_ble_eq_true rfl) (Nat.le_of_ble_eq_true rfl) rfl
    · have c_2 : p0.toInt ≤ 9 := k_ltF (by decide +kernel) rfl c_2
      exfalso; omega
set_option maxHeartbeats 4000000 in
set_option maxRecDepth 100000 in
theorem c_X7_fewest_v5 (l : Launch) (dC : Nat → ClassId) (dI : Nat → Nat → Nat) (cI cJ cZ cM : ClassId) (p0 : Nat) (p1 : Int32) (p2 : Int32) (p3 : Nat → Nat) (b_0 : 10 ≤ p2.toInt) (t_0 : p2.toInt ≤ 2147483647)  : k_Mi l yX7_fewest wsX7_fewest ({ frames := 4, cells := 0, slots := 0, locals := 112 }) (dC, dI) vwCl (tyy cI cJ cZ cM) [(p0, .inr (7, oM p3 i7 j7)), ((p3 14), .inl (cI, 2, .inl (fun _ => 0))), ((p3 49), .inl (cI, 22, .inl (fun _ => 0))), ((p3 50), .inl (cI, 22, .inl (fun _ => 0))), ((p3 72), .inl (cI, 9216, .inl (fun _ => 0))), ((p3 18), .inl (cI, 2, .inl (fun _ => 0)))] [.ref p0, .int p1, .int p2] 0 0 (fun (u9 : (Nat × (Nat → Nat))) => match u9.1 with | 0 => [(p0, .inr (7, oM p3 i7 j7)), ((p3 14), .inl (cI, 2, .inl (fun _ => 0))), ((p3 49), .inl (cI, 22, .inl (fun _ => 0))), ((p3 50), .inl (cI, 22, .inl (fun _ => 0))), ((p3 72), .inl (cI, 9216, .inl (fun _ => 0))), ((p3 18), .inl (cI, 2, .inl (fun _ => 0)))] | 1 => [(p0, .inr (7, oM p3 i7 j7)), ((p3 14), .inl (cI, 2, .inl (fun _ => 0))), ((p3 49), .inl (cI, 22, .inl (fun _ => 0))), ((p3 50), .inl (cI, 22, .inl (fun _ => 0))), ((p3 72), .inl (cI, 9216, .inl (fun _ => 0))), ((p3 18), .inl (cI, 2, .inl (fun _ => 0)))] | 2 => [(p0, .inr (7, oM p3 (upd (upd i7 75 0) 76 0) j7)), ((p3 14), .inl (cI, 2, .inl (fun _ => 0))), ((p3 49), .inl (cI, 22, .inl (fun _ => 0))), ((p3 50), .inl (cI, 22, .inl (fun _ => 0))), ((p3 72), .inl (cI, 9216, .inl (upd (fun _ => (-1)) 0 0))), ((p3 18), .inl (cI, 2, .inl (fun _ => 0)))] | _ => []) (fun (r9 : Int32) (u9 : (Nat × (Nat → Nat))) => match u9.1 with | 0 => (p1.toInt < 0) ∧ r9 = (-1) | 1 => (0 ≤ p1.toInt) ∧ (0 < p1.toInt) ∧ r9 = (-1) | 2 => (0 ≤ p1.toInt) ∧ (p1.toInt ≤ 0) ∧ (¬ p2.toInt = 0) ∧ (¬ p2.toInt = 1) ∧ (¬ p2.toInt = 2) ∧ r9 = (-1) | _ => False) := by
  refine fun sz => k_enter (cc := cX7_fewest) (maxL := 3) (ret := some (.int)) (Qc := fun A => va_Qi (fun (r9 : Int32) (u9 : (Nat × (Nat → Nat))) => match u9.1 with | 0 => (p1.toInt < 0) ∧ r9 = (-1) | 1 => (0 ≤ p1.toInt) ∧ (0 < p1.toInt) ∧ r9 = (-1) | 2 => (0 ≤ p1.toInt) ∧ (p1.toInt ≤ 0) ∧ (¬ p2.toInt = 0) ∧ (¬ p2.toInt = 1) ∧ (¬ p2.toInt = 2) ∧ r9 = (-1) | _ => False) (fun u => k_B (dC, dI) vwCl (tyy cI cJ cZ cM) A ((fun (u9 : (Nat × (Nat → Nat))) => match u9.1 with | 0 => [(p0, .inr (7, oM p3 i7 j7)), ((p3 14), .inl (cI, 2, .inl (fun _ => 0))), ((p3 49), .inl (cI, 22, .inl (fun _ => 0))), ((p3 50), .inl (cI, 22, .inl (fun _ => 0))), ((p3 72), .inl (cI, 9216, .inl (fun _ => 0))), ((p3 18), .inl (cI, 2, .inl (fun _ => 0)))] | 1 => [(p0, .inr (7, oM p3 i7 j7)), ((p3 14), .inl (cI, 2, .inl (fun _ => 0))), ((p3 49), .inl (cI, 22, .inl (fun _ => 0))), ((p3 50), .inl (cI, 22, .inl (fun _ => 0))), ((p3 72), .inl (cI, 9216, .inl (fun _ => 0))), ((p3 18), .inl (cI, 2, .inl (fun _ => 0)))] | 2 => [(p0, .inr (7, oM p3 (upd (upd i7 75 0) 76 0) j7)), ((p3 14), .inl (cI, 2, .inl (fun _ => 0))), ((p3 49), .inl (cI, 22, .inl (fun _ => 0))), ((p3 50), .inl (cI, 22, .inl (fun _ => 0))), ((p3 72), .inl (cI, 9216, .inl (upd (fun _ => (-1)) 0 0))), ((p3 18), .inl (cI, 2, .inl (fun _ => 0)))] | _ => []) u)) A) sz (by decide +kernel) rfl (Nat.le_of_ble_eq_true rfl) (fun p e s m args below meth c A ls H locs B hP hD hS hl => ?_)
  obtain ⟨hx, hb, hml, hown, hts, hr, hlk, hnm, hK, hA, hN, hC⟩ := id B
  have hown : s.vm.findClass RX7 = some m.cls := hown
  have hl : lv_has ls 3 [(0, .ref p0), (1, .int p1), (2, .int p2)] := hl
  have w_0 : (Cond.fieldLink RX7 54 "WishSeaModel" "things" "[I").before args s = true := hts _ (List.mem_of_getElem? (i := 1) rfl)
  have w_1 : (Cond.fieldLink RX7 51 "WishSeaModel" "bank" "I").before args s = true := hts _ (List.mem_of_getElem? (i := 2) rfl)
  have w_2 : (Cond.fieldLink RX7 240 "WishSeaModel" "foundRung" "I").before args s = true := hts _ (List.mem_of_getElem? (i := 3) rfl)
  have hinX7 : ∀ w ∈ u_ws RX7 TX7 92, w ∈ wsX7_fewest := fun _ h => List.mem_cons_of_mem _ (List.mem_append_right _ h)
  refine lv_iload_n hx hb dX7_fewest_0 rfl (lv_at hl 1 rfl) ?_
  refine lv_iconst (v := 0) hx hb dX7_fewest_1 (by decide +kernel) ?_
  refine lv_iconst (v := 1) hx hb dX7_fewest_2 (by decide +kernel) ?_
  refine lv_aload_n hx hb dX7_fewest_3 rfl (lv_at hl 0 rfl) ?_
  refine k_get (D := (dC, dI)) (ci := 7) (v := .ref (p3 14)) (C := RX7) (T := TX7) (N := 92) hx hb hts hinX7 hown hK hP 0 rfl rfl 14 (by decide) w_0 rfl rfl dX7_fewest_4 ?_
  refine lv_aload_n hx hb dX7_fewest_7 rfl (lv_at hl 0 rfl) ?_
  refine k_get (D := (dC, dI)) (ci := 7) (v := .int 0) (C := RX7) (T := TX7) (N := 92) hx hb hts hinX7 hown hK hP 0 rfl rfl 13 (by decide) w_1 rfl rfl dX7_fewest_8 ?_
  refine k_iald (v := 0) hx hb hK hP 1 0 0 rfl rfl rfl (Nat.le_of_ble_eq_true rfl) (Nat.le_of_ble_eq_true rfl) rfl dX7_fewest_11 ?_
  refine lv_ishl hx hb dX7_fewest_12 ?_
  refine k_int (v := 1) (by decide +kernel) ?_
  refine lv_iconst (v := 1) hx hb dX7_fewest_13 (by decide +kernel) ?_
  refine lv_isub hx hb dX7_fewest_14 ?_
  refine k_int (v := 0) (by decide +kernel) ?_
  refine k_ci (wc := []) (wr := [(p0, .inr (7, oM p3 i7 j7)), ((p3 14), .inl (cI, 2, .inl (fun _ => 0))), ((p3 49), .inl (cI, 22, .inl (fun _ => 0))), ((p3 50), .inl (cI, 22, .inl (fun _ => 0))), ((p3 72), .inl (cI, 9216, .inl (fun _ => 0))), ((p3 18), .inl (cI, 2, .inl (fun _ => 0)))]) (fun hPc hDc hFc => va_runS (As := [.int p1, .int 0, .int 0]) (rest := []) ⟨hx, hb, hml, hown, hts⟩ (c_X7_is_v16 l dC dI cI cJ cZ cM p1 H.size) (va_cwS 3 hts gX7_fewest_X7_is rfl rfl rfl (by decide +kernel) ⟨(Nat.le_of_ble_eq_true rfl), (Nat.le_of_ble_eq_true rfl)⟩) (k_pS hPc hDc hK hN hC hS hFc) rfl rfl hl.1 rfl (lv_room (Nat.le_of_ble_eq_true rfl)) dX7_fewest_15 ⟨(Nat.le_of_ble_eq_true rfl), (Nat.le_of_ble_eq_true rfl)⟩) hP hD hS hA [] [0, 1, 2, 3, 4, 5] rfl rfl rfl rfl (by decide) (fun _ => rfl) 0 0 rfl rfl (fun r_1 u_2 H locs hw hP hD hS => ?_)
  obtain ⟨k_u_2, u_u_2⟩ := u_2
  rcases k_u_2 with _ | _ | _ | k_u_2
  · obtain ⟨c_3, rfl⟩ : (p1.toInt < 0) ∧ r_1 = 0 := hw
    have hP : va_P (dC, dI) vwCl [(p0, .inr (7, oM p3 i7 j7)), ((p3 14), .inl (cI, 2, .inl (fun _ => 0))), ((p3 49), .inl (cI, 22, .inl (fun _ => 0))), ((p3 50), .inl (cI, 22, .inl (fun _ => 0))), ((p3 72), .inl (cI, 9216, .inl (fun _ => 0))), ((p3 18), .inl (cI, 2, .inl (fun _ => 0)))] H := hP
    have hD : va_D A [(p0, .inr (7, oM p3 i7 j7)), ((p3 14), .inl (cI, 2, .inl (fun _ => 0))), ((p3 49), .inl (cI, 22, .inl (fun _ => 0))), ((p3 50), .inl (cI, 22, .inl (fun _ => 0))), ((p3 72), .inl (cI, 9216, .inl (fun _ => 0))), ((p3 18), .inl (cI, 2, .inl (fun _ => 0)))] := hD
    refine lv_if_ne (tgt := 23) hx hb dX7_fewest_18 (by decide) (fun q9 => absurd q9 (by decide +kernel)) (fun _ => ?_)
    refine lv_iconst (v := (-1)) hx hb dX7_fewest_21 (by decide +kernel) ?_
    exact k_ri B hP hD hS dX7_fewest_22 (0, (fun _ => 0)) [0, 1, 2, 3, 4, 5] rfl rfl rfl (Nat.le_of_ble_eq_true rfl) (Nat.le_of_ble_eq_true rfl) ⟨c_3, rfl⟩
  · obtain ⟨c_4, c_5, rfl⟩ : (0 ≤ p1.toInt) ∧ (0 < p1.toInt) ∧ r_1 = 0 := hw
    have hP : va_P (dC, dI) vwCl [(p0, .inr (7, oM p3 i7 j7)), ((p3 14), .inl (cI, 2, .inl (fun _ => 0))), ((p3 49), .inl (cI, 22, .inl (fun _ => 0))), ((p3 50), .inl (cI, 22, .inl (fun _ => 0))), ((p3 72), .inl (cI, 9216, .inl (fun _ => 0))), ((p3 18), .inl (cI, 2, .inl (fun _ => 0)))] H := hP
    have hD : va_D A [(p0, .inr (7, oM p3 i7 j7)), ((p3 14), .inl (cI, 2, .inl (fun _ => 0))), ((p3 49), .inl (cI, 22, .inl (fun _ => 0))), ((p3 50), .inl (cI, 22, .inl (fun _ => 0))), ((p3 72), .inl (cI, 9216, .inl (fun _ => 0))), ((p3 18), .inl (cI, 2, .inl (fun _ => 0)))] := hD
    refine lv_if_ne (tgt := 23) hx hb dX7_fewest_18 (by decide) (fun q9 => absurd q9 (by decide +kernel)) (fun _ => ?_)
    refine lv_iconst (v := (-1)) hx hb dX7_fewest_21 (by decide +kernel) ?_
    exact k_ri B hP hD hS dX7_fewest_22 (1, (fun _ => 0)) [0, 1, 2, 3, 4, 5] rfl rfl rfl (Nat.le_of_ble_eq_true rfl) (Nat.le_of_ble_eq_true rfl) ⟨c_4, c_5, rfl⟩
  · obtain ⟨c_6, c_7, rfl⟩ : (0 ≤ p1.toInt) ∧ (p1.toInt ≤ 0) ∧ r_1 = 1 := hw
    have hP : va_P (dC, dI) vwCl [(p0, .inr (7, oM p3 i7 j7)), ((p3 14), .inl (cI, 2, .inl (fun _ => 0))), ((p3 49), .inl (cI, 22, .inl (fun _ => 0))), ((p3 50), .inl (cI, 22, .inl (fun _ => 0))), ((p3 72), .inl (cI, 9216, .inl (fun _ => 0))), ((p3 18), .inl (cI, 2, .inl (fun _ => 0)))] H := hP
    have hD : va_D A [(p0, .inr (7, oM p3 i7 j7)), ((p3 14), .inl (cI, 2, .inl (fun _ => 0))), ((p3 49), .inl (cI, 22, .inl (fun _ => 0))), ((p3 50), .inl (cI, 22, .inl (fun _ => 0))), ((p3 72), .inl (cI, 9216, .inl (fun _ => 0))), ((p3 18), .inl (cI, 2, .inl (fun _ => 0)))] := hD
    refine lv_if_ne (tgt := 23) hx hb dX7_fewest_18 (by decide) (fun _ => ?_) (fun q9 => absurd q9 (by decide +kernel))
    refine lv_aload_n hx hb dX7_fewest_23 rfl (lv_at hl 0 rfl) ?_
    refine lv_iload_n hx hb dX7_fewest_24 rfl (lv_at hl 1 rfl) ?_
    refine k_cv (wc := [(p0, .inr (7, oM p3 i7 j7)), ((p3 49), .inl (cI, 22, .inl (fun _ => 0))), ((p3 50), .inl (cI, 22, .inl (fun _ => 0))), ((p3 72), .inl (cI, 9216, .inl (fun _ => 0))), ((p3 14), .inl (cI, 2, .inl (fun _ => 0))), ((p3 18), .inl (cI, 2, .inl (fun _ => 0)))]) (wr := []) (fun hPc hDc hFc => va_runV (As := [.int p1]) (rest := []) ⟨hx, hb, hml, hown, hts⟩ (c_X7_finds_v0 l dC dI cI cJ cZ cM p0 p1 p3 (by omega) (by omega) H.size) (cwV 1 hts gX7_fewest_X7_finds rfl rfl rfl (by decide +kernel) ⟨(Nat.le_of_ble_eq_true rfl), (Nat.le_of_ble_eq_true rfl)⟩) (k_pV hPc hDc hK hN hC hS hFc hP (q0 := 0) (ci := 7) rfl rfl) rfl rfl hl.1 rfl (lv_room (Nat.le_of_ble_eq_true rfl)) dX7_fewest_25 ⟨(Nat.le_of_ble_eq_true rfl), (Nat.le_of_ble_eq_true rfl)⟩) hP hD hS hA [0, 2, 3, 4, 1, 5] [] rfl rfl rfl rfl (by decide) (fun _ => rfl) 0 0 rfl rfl (fun u_9 H locs hw hP hD hS => ?_)
    have hP : va_P (dC, dI) vwCl [(p0, .inr (7, oM p3 (upd (upd i7 75 0) 76 0) j7)), ((p3 49), .inl (cI, 22, .inl (fun _ => 0))), ((p3 50), .inl (cI, 22, .inl (fun _ => 0))), ((p3 72), .inl (cI, 9216, .inl (upd (fun _ => (-1)) 0 0))), ((p3 14), .inl (cI, 2, .inl (fun _ => 0))), ((p3 18), .inl (cI, 2, .inl (fun _ => 0)))] H := hP
    have hD : va_D A [(p0, .inr (7, oM p3 (upd (upd i7 75 0) 76 0) j7)), ((p3 49), .inl (cI, 22, .inl (fun _ => 0))), ((p3 50), .inl (cI, 22, .inl (fun _ => 0))), ((p3 72), .inl (cI, 9216, .inl (upd (fun _ => (-1)) 0 0))), ((p3 14), .inl (cI, 2, .inl (fun _ => 0))), ((p3 18), .inl (cI, 2, .inl (fun _ => 0)))] := hD
    refine lv_aload_n hx hb dX7_fewest_28 rfl (lv_at hl 0 rfl) ?_
    refine k_get (D := (dC, dI)) (ci := 7) (v := .int 0) (C := RX7) (T := TX7) (N := 92) hx hb hts hinX7 hown hK hP 0 rfl rfl 75 (by decide) w_2 rfl rfl dX7_fewest_29 ?_
    refine lv_iconst (v := (-1)) hx hb dX7_fewest_32 (by decide +kernel) ?_
    refine lv_icmp_ne (tgt := 38) hx hb dX7_fewest_33 (by decide) (fun _ => ?_) (fun q9 => absurd q9 (by decide +kernel))
    refine lv_iload_n hx hb dX7_fewest_38 rfl (lv_at hl 2 rfl) ?_
    refine lv_if_ne (tgt := 49) hx hb dX7_fewest_39 (by decide) (fun c_10 => ?_) (fun c_10 => ?_)
    · have c_10 : ¬ p2.toInt = 0 := k_eqF rfl (by decide +kernel) c_10
      refine lv_iload_n hx hb dX7_fewest_49 rfl (lv_at hl 2 rfl) ?_
      refine lv_iconst (v := 1) hx hb dX7_fewest_50 (by decide +kernel) ?_
      refine lv_icmp_ne (tgt := 61) hx hb dX7_fewest_51 (by decide) (fun c_11 => ?_) (fun c_11 => ?_)
      · have c_11 : ¬ p2.toInt = 1 := k_eqF rfl (by decide +kernel) c_11
        refine lv_iload_n hx hb dX7_fewest_61 rfl (lv_at hl 2 rfl) ?_
        refine lv_iconst (v := 2) hx hb dX7_fewest_62 (by decide +kernel) ?_
        refine lv_icmp_ne (tgt := 73) hx hb dX7_fewest_63 (by decide) (fun c_12 => ?_) (fun c_12 => ?_)
        · have c_12 : ¬ p2.toInt = 2 := k_eqF rfl (by decide +kernel) c_12
          refine lv_iload_n hx hb dX7_fewest_73 rfl (lv_at hl 2 rfl) ?_
          refine lv_bipush (v := 10) hx hb dX7_fewest_74 (by decide +kernel) ?_
          refine lv_bipush (v := 9) hx hb dX7_fewest_76 (by decide +kernel) ?_
          refine lv_aload_n hx hb dX7_fewest_78 rfl (lv_at hl 0 rfl) ?_
          refine k_get (D := (dC, dI)) (ci := 7) (v := .int 0) (C := RX7) (T := TX7) (N := 92) hx hb hts hinX7 hown hK hP 0 rfl rfl 75 (by decide) w_2 rfl rfl dX7_fewest_79 ?_
          refine lv_iadd hx hb dX7_fewest_82 ?_
          refine k_int (v := 9) (by decide +kernel) ?_
          refine k_ci (wc := []) (wr := [(p0, .inr (7, oM p3 (upd (upd i7 75 0) 76 0) j7)), ((p3 49), .inl (cI, 22, .inl (fun _ => 0))), ((p3 50), .inl (cI, 22, .inl (fun _ => 0))), ((p3 72), .inl (cI, 9216, .inl (upd (fun _ => (-1)) 0 0))), ((p3 14), .inl (cI, 2, .inl (fun _ => 0))), ((p3 18), .inl (cI, 2, .inl (fun _ => 0)))]) (fun hPc hDc hFc => va_runS (As := [.int p2, .int 10, .int 9]) (rest := []) ⟨hx, hb, hml, hown, hts⟩ (c_X7_is_v19 l dC dI cI cJ cZ cM p2 (by omega) (by omega) H.size) (va_cwS 3 hts gX7_fewest_X7_is rfl rfl rfl (by decide +kernel) ⟨(Nat.le_of_ble_eq_true rfl), (Nat.le_of_ble_eq_true rfl)⟩) (k_pS hPc hDc hK hN hC hS hFc) rfl rfl hl.1 rfl (lv_room (Nat.le_of_ble_eq_true rfl)) dX7_fewest_83 ⟨(Nat.le_of_ble_eq_true rfl), (Nat.le_of_ble_eq_true rfl)⟩) hP hD hS hA [] [0, 1, 2, 3, 4, 5] rfl rfl rfl rfl (by decide) (fun _ => rfl) 0 0 rfl rfl (fun r_13 u_14 H locs hw hP hD hS => ?_)
          obtain rfl : r_13 = 0 := hw
          have hP : va_P (dC, dI) vwCl [(p0, .inr (7, oM p3 (upd (upd i7 75 0) 76 0) j7)), ((p3 49), .inl (cI, 22, .inl (fun _ => 0))), ((p3 50), .inl (cI, 22, .inl (fun _ => 0))), ((p3 72), .inl (cI, 9216, .inl (upd (fun _ => (-1)) 0 0))), ((p3 14), .inl (cI, 2, .inl (fun _ => 0))), ((p3 18), .inl (cI, 2, .inl (fun _ => 0)))] H := hP
          have hD : va_D A [(p0, .inr (7, oM p3 (upd (upd i7 75 0) 76 0) j7)), ((p3 49), .inl (cI, 22, .inl (fun _ => 0))), ((p3 50), .inl (cI, 22, .inl (fun _ => 0))), ((p3 72), .inl (cI, 9216, .inl (upd (fun _ => (-1)) 0 0))), ((p3 14), .inl (cI, 2, .inl (fun _ => 0))), ((p3 18), .inl (cI, 2, .inl (fun _ => 0)))] := hD
          refine lv_if_eq (tgt := 100) hx hb dX7_fewest_86 (by decide) (fun _ => ?_) (fun q9 => absurd q9 (by decide +kernel))
          refine lv_iconst (v := (-1)) hx hb dX7_fewest_100 (by decide +kernel) ?_
          exact k_ri B hP hD hS dX7_fewest_101 (2, (fun _ => 0)) [0, 4, 1, 2, 3, 5] rfl rfl rfl (Nat.le_of_ble_eq_true rfl) (Nat.le_of_ble_eq_true rfl) ⟨c_6, c_7, c_10, c_11, c_12, rfl⟩
        · have c_12 : p2.toInt = 2 := k_eqT rfl (by decide +kernel) c_12
          exfalso; omega
      · have c_11 : p2.toInt = 1 := k_eqT rfl (by decide +kernel) c_11
        exfalso; omega
    · have c_10 : p2.toInt = 0 := k_eqT rfl (by decide +kernel) c_10
      exfalso; omega
  · exact False.elim hw
set_option maxHeartbeats 4000000 in
set_option maxRecDepth 100000 in
theorem c_X5_lastingWorthOf_v0 (l : Launch) (dC : Nat → ClassId) (dI : Nat → Nat → Nat) (cI cJ cZ cM : ClassId) (p0 : Nat → Nat)   : k_Mi l yX5_lastingWorthOf wsX5_lastingWorthOf ({ frames := 2, cells := 0, slots := 0, locals := 63 }) (dC, dI) vwCl (tyy cI cJ cZ cM) [((p0 1), .inr (5, [.ref (p0 2), .ref (p0 3), .ref (p0 4), .ref (p0 5), .ref (p0 6), .ref (p0 7), .ref (p0 8), .ref (p0 9), .ref (p0 10), .ref (p0 11), .ref (p0 12), .ref (p0 13), .int 0, .int 0, .int 0, .int 0, .int 0, .int 100, .int 0, .int 0]))] [.ref (p0 1), .int 0] 0 0 (fun (u9 : Unit) => [((p0 1), .inr (5, [.ref (p0 2), .ref (p0 3), .ref (p0 4), .ref (p0 5), .ref (p0 6), .ref (p0 7), .ref (p0 8), .ref (p0 9), .ref (p0 10), .ref (p0 11), .ref (p0 12), .ref (p0 13), .int 0, .int 0, .int 0, .int 0, .int 0, .int 100, .int 0, .int 0]))]) (fun (r9 : Int32) (u9 : Unit) => r9 = 0) := by
  refine fun sz => k_enter (cc := cX5_lastingWorthOf) (maxL := 2) (ret := some (.int)) (Qc := fun A => va_Qi (fun (r9 : Int32) (u9 : Unit) => r9 = 0) (fun u => k_B (dC, dI) vwCl (tyy cI cJ cZ cM) A ((fun (u9 : Unit) => [((p0 1), .inr (5, [.ref (p0 2), .ref (p0 3), .ref (p0 4), .ref (p0 5), .ref (p0 6), .ref (p0 7), .ref (p0 8), .ref (p0 9), .ref (p0 10), .ref (p0 11), .ref (p0 12), .ref (p0 13), .int 0, .int 0, .int 0, .int 0, .int 0, .int 100, .int 0, .int 0]))]) u)) A) sz (by decide +kernel) rfl (Nat.le_of_ble_eq_true rfl) (fun p e s m args below meth c A ls H locs B hP hD hS hl => ?_)
  obtain ⟨hx, hb, hml, hown, hts, hr, hlk, hnm, hK, hA, hN, hC⟩ := id B
  have hown : s.vm.findClass RX5 = some m.cls := hown
  have hl : lv_has ls 2 [(0, .ref (p0 1)), (1, .int 0)] := hl
  have w_0 : (Cond.fieldLink RX5 67 "WishSea$Shore" "brief" "I").before args s = true := hts _ (List.mem_of_getElem? (i := 1) rfl)
  have hinX5 : ∀ w ∈ u_ws RX5 TX5 20, w ∈ wsX5_lastingWorthOf := fun _ h => List.mem_cons_of_mem _ (List.mem_append_right _ h)
  refine lv_aload_n hx hb dX5_lastingWorthOf_0 rfl (lv_at hl 0 rfl) ?_
  refine lv_iload_n hx hb dX5_lastingWorthOf_1 rfl (lv_at hl 1 rfl) ?_
  refine lv_aload_n hx hb dX5_lastingWorthOf_2 rfl (lv_at hl 0 rfl) ?_
  refine k_get (D := (dC, dI)) (ci := 5) (v := .int 0) (C := RX5) (T := TX5) (N := 20) hx hb hts hinX5 hown hK hP 0 rfl rfl 15 (by decide) w_0 rfl rfl dX5_lastingWorthOf_3 ?_
  refine lv_iconst (v := (-1)) hx hb dX5_lastingWorthOf_6 (by decide +kernel) ?_
  refine lv_ixor hx hb dX5_lastingWorthOf_7 ?_
  refine k_int (v := (-1)) (by decide +kernel) ?_
  refine lv_iand hx hb dX5_lastingWorthOf_8 ?_
  refine k_int (v := 0) (by decide +kernel) ?_
  refine k_ci (wc := [((p0 1), .inr (5, [.ref (p0 2), .ref (p0 3), .ref (p0 4), .ref (p0 5), .ref (p0 6), .ref (p0 7), .ref (p0 8), .ref (p0 9), .ref (p0 10), .ref (p0 11), .ref (p0 12), .ref (p0 13), .int 0, .int 0, .int 0, .int 0, .int 0, .int 100, .int 0, .int 0]))]) (wr := []) (fun hPc hDc hFc => va_runV (As := [.int 0]) (rest := []) ⟨hx, hb, hml, hown, hts⟩ (c_X5_worthOf_v0 l dC dI cI cJ cZ cM p0 H.size) (cwV 1 hts gX5_lastingWorthOf_X5_worthOf rfl rfl rfl (by decide +kernel) ⟨(Nat.le_of_ble_eq_true rfl), (Nat.le_of_ble_eq_true rfl)⟩) (k_pV hPc hDc hK hN hC hS hFc hP (q0 := 0) (ci := 5) rfl rfl) rfl rfl hl.1 rfl (lv_room (Nat.le_of_ble_eq_true rfl)) dX5_lastingWorthOf_9 ⟨(Nat.le_of_ble_eq_true rfl), (Nat.le_of_ble_eq_true rfl)⟩) hP hD hS hA [0] [] rfl rfl rfl rfl (by decide) (fun _ => rfl) 0 0 rfl rfl (fun r_1 u_2 H locs hw hP hD hS => ?_)
  obtain rfl : r_1 = 0 := hw
  have hP : va_P (dC, dI) vwCl [((p0 1), .inr (5, [.ref (p0 2), .ref (p0 3), .ref (p0 4), .ref (p0 5), .ref (p0 6), .ref (p0 7), .ref (p0 8), .ref (p0 9), .ref (p0 10), .ref (p0 11), .ref (p0 12), .ref (p0 13), .int 0, .int 0, .int 0, .int 0, .int 0, .int 100, .int 0, .int 0]))] H := hP
  have hD : va_D A [((p0 1), .inr (5, [.ref (p0 2), .ref (p0 3), .ref (p0 4), .ref (p0 5), .ref (p0 6), .ref (p0 7), .ref (p0 8), .ref (p0 9), .ref (p0 10), .ref (p0 11), .ref (p0 12), .ref (p0 13), .int 0, .int 0, .int 0, .int 0, .int 0, .int 100, .int 0, .int 0]))] := hD
  exact k_ri B hP hD hS dX5_lastingWorthOf_12 () [0] rfl rfl rfl (Nat.le_of_ble_eq_true rfl) (Nat.le_of_ble_eq_true rfl) rfl
set_option maxHeartbeats 4000000 in
set_option maxRecDepth 100000 in
theorem c_X4_mostBy_v0 (l : Launch) (dC : Nat → ClassId) (dI : Nat → Nat → Nat) (cI cJ cZ cM : ClassId) (p0 : Nat → Nat) (p1 : Int32) (p2 : Nat → Nat) (b_0 : 0 ≤ p1.toInt) (t_0 : p1.toInt ≤ 8)  : k_Mi l yX4_mostBy wsX4_mostBy ({ frames := 3, cells := 0, slots := 0, locals := 84 }) (dC, dI) vwCl (tyy cI cJ cZ cM) [((p0 0), .inr (4, [.ref (p0 1), .ref (p0 2), .ref (p0 3), .ref (p2 1), .int 1, .int 1])), ((p0 1), .inl (cI, 9216, .inl (upd (fun k => if 0 ≤ k ∧ k < 9 then 2147483647 else 0) 0 0))), ((p2 1), .inr (5, [.ref (p2 2), .ref (p2 3), .ref (p2 4), .ref (p2 5), .ref (p2 6), .ref (p2 7), .ref (p2 8), .ref (p2 9), .ref (p2 10), .ref (p2 11), .ref (p2 12), .ref (p2 13), .int 0, .int 0, .int 0, .int 0, .int 0, .int 100, .int 0, .int 0]))] [.ref (p0 0), .int p1] 0 0 (fun (u9 : Unit) => [((p0 0), .inr (4, [.ref (p0 1), .ref (p0 2), .ref (p0 3), .ref (p2 1), .int 1, .int 1])), ((p0 1), .inl (cI, 9216, .inl (upd (fun k => if 0 ≤ k ∧ k < 9 then 2147483647 else 0) 0 0))), ((p2 1), .inr (5, [.ref (p2 2), .ref (p2 3), .ref (p2 4), .ref (p2 5), .ref (p2 6), .ref (p2 7), .ref (p2 8), .ref (p2 9), .ref (p2 10), .ref (p2 11), .ref (p2 12), .ref (p2 13), .int 0, .int 0, .int 0, .int 0, .int 0, .int 100, .int 0, .int 0]))]) (fun (r9 : Int32) (u9 : Unit) => r9 = 0) := by
  refine fun sz => k_enter (cc := cX4_mostBy) (maxL := 7) (ret := some (.int)) (Qc := fun A => va_Qi (fun (r9 : Int32) (u9 : Unit) => r9 = 0) (fun u => k_B (dC, dI) vwCl (tyy cI cJ cZ cM) A ((fun (u9 : Unit) => [((p0 0), .inr (4, [.ref (p0 1), .ref (p0 2), .ref (p0 3), .ref (p2 1), .int 1, .int 1])), ((p0 1), .inl (cI, 9216, .inl (upd (fun k => if 0 ≤ k ∧ k < 9 then 2147483647 else 0) 0 0))), ((p2 1), .inr (5, [.ref (p2 2), .ref (p2 3), .ref (p2 4), .ref (p2 5), .ref (p2 6), .ref (p2 7), .ref (p2 8), .ref (p2 9), .ref (p2 10), .ref (p2 11), .ref (p2 12), .ref (p2 13), .int 0, .int 0, .int 0, .int 0, .int 0, .int 100, .int 0, .int 0]))]) u)) A) sz (by decide +kernel) rfl (Nat.le_of_ble_eq_true rfl) (fun p e s m args below meth c A ls H locs B hP hD hS hl => ?_)
  obtain ⟨hx, hb, hml, hown, hts, hr, hlk, hnm, hK, hA, hN, hC⟩ := id B
  have hown : s.vm.findClass RX4 = some m.cls := hown
  have hl : lv_has ls 7 [(0, .ref (p0 0)), (1, .int p1)] := hl
  have w_0 : (Cond.fieldLink RX4 47 "WishSea$Rungs" "sets" "I").before args s = true := hts _ (List.mem_of_getElem? (i := 1) rfl)
  have w_1 : (Cond.fieldLink RX4 9 "WishSea$Rungs" "table" "[I").before args s = true := hts _ (List.mem_of_getElem? (i := 2) rfl)
  have w_2 : (Cond.constant RX4 50 (2147483647)).before args s = true := hts _ (List.mem_of_getElem? (i := 3) rfl)
  have w_3 : (Cond.fieldLink RX4 25 "WishSea$Rungs" "shore" "LWishSea$Shore;").before args s = true := hts _ (List.mem_of_getElem? (i := 4) rfl)
  have hinX4 : ∀ w ∈ u_ws RX4 TX4 6, w ∈ wsX4_mostBy := fun _ h => List.mem_cons_of_mem _ (List.mem_append_left _ (List.mem_append_right _ h))
  rcases (show p1.toInt = 0 ∨ p1.toInt = 1 ∨ p1.toInt = 2 ∨ p1.toInt = 3 ∨ p1.toInt = 4 ∨ p1.toInt = 5 ∨ p1.toInt = 6 ∨ p1.toInt = 7 ∨ p1.toInt = 8 by omega) with c_1 | c_1 | c_1 | c_1 | c_1 | c_1 | c_1 | c_1 | c_1
  · obtain rfl : p1 = 0 := k_eqL (by decide +kernel) c_1
    refine lv_iconst (v := (-1)) hx hb dX4_mostBy_0 (by decide +kernel) ?_
    refine lv_istore_n (lv' := [(2, .int (-1)), (0, .ref (p0 0)), (1, .int 0)]) hx hb dX4_mostBy_1 rfl hl (by decide) rfl (fun ls hl => ?_)
    refine lv_iconst (v := (-1)) hx hb dX4_mostBy_2 (by decide +kernel) ?_
    refine lv_istore_n (lv' := [(3, .int (-1)), (2, .int (-1)), (0, .ref (p0 0)), (1, .int 0)]) hx hb dX4_mostBy_3 rfl hl (by decide) rfl (fun ls hl => ?_)
    refine lv_iconst (v := 0) hx hb dX4_mostBy_4 (by decide +kernel) ?_
    refine lv_istore (lv' := [(4, .int 0), (3, .int (-1)), (2, .int (-1)), (0, .ref (p0 0)), (1, .int 0)]) hx hb dX4_mostBy_5 hl (by decide) rfl (fun ls hl => ?_)
    refine lv_iload hx hb dX4_mostBy_7 (lv_at hl 0 rfl) ?_
    refine lv_iload_n hx hb dX4_mostBy_9 rfl (lv_at hl 4 rfl) ?_
    refine lv_iconst (v := 1) hx hb dX4_mostBy_10 (by decide +kernel) ?_
    refine lv_iadd hx hb dX4_mostBy_11 ?_
    refine k_int (v := 1) (by decide +kernel) ?_
    refine lv_aload_n hx hb dX4_mostBy_12 rfl (lv_at hl 3 rfl) ?_
    refine k_get (D := (dC, dI)) (ci := 4) (v := .int 1) (C := RX4) (T := TX4) (N := 6) hx hb hts hinX4 hown hK hP 0 rfl rfl 4 (by decide) w_0 rfl rfl dX4_mostBy_13 ?_
    refine lv_imul hx hb dX4_mostBy_16 ?_
    refine k_int (v := 1) (by decide +kernel) ?_
    refine lv_icmp_ge (tgt := 124) hx hb dX4_mostBy_17 (by decide) (fun q9 => absurd q9 (by decide +kernel)) (fun _ => ?_)
    refine lv_iload hx hb dX4_mostBy_20 (lv_at hl 0 rfl) ?_
    refine lv_aload_n hx hb dX4_mostBy_22 rfl (lv_at hl 3 rfl) ?_
    refine k_get (D := (dC, dI)) (ci := 4) (v := .ref (p0 1)) (C := RX4) (T := TX4) (N := 6) hx hb hts hinX4 hown hK hP 0 rfl rfl 0 (by decide) w_1 rfl rfl dX4_mostBy_23 ?_
    refine va_alen (v := 9216) hx hb hK hP 1 0 rfl rfl rfl dX4_mostBy_26 ?_
    refine lv_icmp_ge (tgt := 124) hx hb dX4_mostBy_27 (by decide) (fun q9 => absurd q9 (by decide +kernel)) (fun _ => ?_)
    refine lv_aload_n hx hb dX4_mostBy_30 rfl (lv_at hl 3 rfl) ?_
    refine k_get (D := (dC, dI)) (ci := 4) (v := .ref (p0 1)) (C := RX4) (T := TX4) (N := 6) hx hb hts hinX4 hown hK hP 0 rfl rfl 0 (by decide) w_1 rfl rfl dX4_mostBy_31 ?_
    refine lv_iload hx hb dX4_mostBy_34 (lv_at hl 0 rfl) ?_
    refine k_iald (v := 0) hx hb hK hP 1 0 0 rfl rfl rfl (Nat.le_of_ble_eq_true rfl) (Nat.le_of_ble_eq_true rfl) rfl dX4_mostBy_36 ?_
    refine lv_ldc (v := 2147483647) hx hb hown w_2 dX4_mostBy_37 ?_
    refine lv_icmp_ne (tgt := 45) hx hb dX4_mostBy_39 (by decide) (fun _ => ?_) (fun q9 => absurd q9 (by decide +kernel))
    refine lv_aload_n hx hb dX4_mostBy_45 rfl (lv_at hl 3 rfl) ?_
    refine k_get (D := (dC, dI)) (ci := 4) (v := .ref (p2 1)) (C := RX4) (T := TX4) (N := 6) hx hb hts hinX4 hown hK hP 0 rfl rfl 3 (by decide) w_3 rfl rfl dX4_mostBy_46 ?_
    refine lv_aload_n hx hb dX4_mostBy_49 rfl (lv_at hl 3 rfl) ?_
    refine lv_iload hx hb dX4_mostBy_50 (lv_at hl 0 rfl) ?_
    refine k_ci (wc := [((p0 0), .inr (4, [.ref (p0 1), .ref (p0 2), .ref (p0 3), .ref (p2 1), .int 1, .int 1]))]) (wr := [((p0 1), .inl (cI, 9216, .inl (upd (fun k => if 0 ≤ k ∧ k < 9 then 2147483647 else 0) 0 0))), ((p2 1), .inr (5, [.ref (p2 2), .ref (p2 3), .ref (p2 4), .ref (p2 5), .ref (p2 6), .ref (p2 7), .ref (p2 8), .ref (p2 9), .ref (p2 10), .ref (p2 11), .ref (p2 12), .ref (p2 13), .int 0, .int 0, .int 0, .int 0, .int 0, .int 100, .int 0, .int 0]))]) (fun hPc hDc hFc => va_runV (As := [.int 0]) (rest := [.ref (p2 1)]) ⟨hx, hb, hml, hown, hts⟩ (c_X4_setOf_v0 l dC dI cI cJ cZ cM p0 p2 H.size) (cwV 1 hts gX4_mostBy_X4_setOf rfl rfl rfl (by decide +kernel) ⟨(Nat.le_of_ble_eq_true rfl), (Nat.le_of_ble_eq_true rfl)⟩) (k_pV hPc hDc hK hN hC hS hFc hP (q0 := 0) (ci := 4) rfl rfl) rfl rfl hl.1 rfl (lv_room (Nat.le_of_ble_eq_true rfl)) dX4_mostBy_52 ⟨(Nat.le_of_ble_eq_true rfl), (Nat.le_of_ble_eq_true rfl)⟩) hP hD hS hA [0] [1, 2] rfl rfl rfl rfl (by decide) (fun _ => rfl) 0 0 rfl rfl (fun r_2 u_3 H locs hw hP hD hS => ?_)
    obtain rfl : r_2 = 0 := hw
    have hP : va_P (dC, dI) vwCl [((p0 1), .inl (cI, 9216, .inl (upd (fun k => if 0 ≤ k ∧ k < 9 then 2147483647 else 0) 0 0))), ((p2 1), .inr (5, [.ref (p2 2), .ref (p2 3), .ref (p2 4), .ref (p2 5), .ref (p2 6), .ref (p2 7), .ref (p2 8), .ref (p2 9), .ref (p2 10), .ref (p2 11), .ref (p2 12), .ref (p2 13), .int 0, .int 0, .int 0, .int 0, .int 0, .int 100, .int 0, .int 0])), ((p0 0), .inr (4, [.ref (p0 1), .ref (p0 2), .ref (p0 3), .ref (p2 1), .int 1, .int 1]))] H := hP
    have hD : va_D A [((p0 1), .inl (cI, 9216, .inl (upd (fun k => if 0 ≤ k ∧ k < 9 then 2147483647 else 0) 0 0))), ((p2 1), .inr (5, [.ref (p2 2), .ref (p2 3), .ref (p2 4), .ref (p2 5), .ref (p2 6), .ref (p2 7), .ref (p2 8), .ref (p2 9), .ref (p2 10), .ref (p2 11), .ref (p2 12), .ref (p2 13), .int 0, .int 0, .int 0, .int 0, .int 0, .int 100, .int 0, .int 0])), ((p0 0), .inr (4, [.ref (p0 1), .ref (p0 2), .ref (p0 3), .ref (p2 1), .int 1, .int 1]))] := hD
    refine k_ci (wc := [((p2 1), .inr (5, [.ref (p2 2), .ref (p2 3), .ref (p2 4), .ref (p2 5), .ref (p2 6), .ref (p2 7), .ref (p2 8), .ref (p2 9), .ref (p2 10), .ref (p2 11), .ref (p2 12), .ref (p2 13), .int 0, .int 0, .int 0, .int 0, .int 0, .int 100, .int 0, .int 0]))]) (wr := [((p0 1), .inl (cI, 9216, .inl (upd (fun k => if 0 ≤ k ∧ k < 9 then 2147483647 else 0) 0 0))), ((p0 0), .inr (4, [.ref (p0 1), .ref (p0 2), .ref (p0 3), .ref (p2 1), .int 1, .int 1]))]) (fun hPc hDc hFc => va_runV (As := [.int 0]) (rest := []) ⟨hx, hb, hml, hown, hts⟩ (c_X5_lastingWorthOf_v0 l dC dI cI cJ cZ cM p2 H.size) (cwV 1 hts gX4_mostBy_X5_lastingWorthOf rfl rfl rfl (by decide +kernel) ⟨(Nat.le_of_ble_eq_true rfl), (Nat.le_of_ble_eq_true rfl)⟩) (k_pV hPc hDc hK hN hC hS hFc hP (q0 := 1) (ci := 5) rfl rfl) rfl rfl hl.1 rfl (lv_room (Nat.le_of_ble_eq_true rfl)) dX4_mostBy_55 ⟨(Nat.le_of_ble_eq_true rfl), (Nat.le_of_ble_eq_true rfl)⟩) hP hD hS hA [1] [0, 2] rfl rfl rfl rfl (by decide) (fun _ => rfl) 0 0 rfl rfl (fun r_4 u_5 H locs hw hP hD hS => ?_)
    obtain rfl : r_4 = 0 := hw
    have hP : va_P (dC, dI) vwCl [((p0 1), .inl (cI, 9216, .inl (upd (fun k => if 0 ≤ k ∧ k < 9 then 2147483647 else 0) 0 0))), ((p0 0), .inr (4, [.ref (p0 1), .ref (p0 2), .ref (p0 3), .ref (p2 1), .int 1, .int 1])), ((p2 1), .inr (5, [.ref (p2 2), .ref (p2 3), .ref (p2 4), .ref (p2 5), .ref (p2 6), .ref (p2 7), .ref (p2 8), .ref (p2 9), .ref (p2 10), .ref (p2 11), .ref (p2 12), .ref (p2 13), .int 0, .int 0, .int 0, .int 0, .int 0, .int 100, .int 0, .int 0]))] H := hP
    have hD : va_D A [((p0 1), .inl (cI, 9216, .inl (upd (fun k => if 0 ≤ k ∧ k < 9 then 2147483647 else 0) 0 0))), ((p0 0), .inr (4, [.ref (p0 1), .ref (p0 2), .ref (p0 3), .ref (p2 1), .int 1, .int 1])), ((p2 1), .inr (5, [.ref (p2 2), .ref (p2 3), .ref (p2 4), .ref (p2 5), .ref (p2 6), .ref (p2 7), .ref (p2 8), .ref (p2 9), .ref (p2 10), .ref (p2 11), .ref (p2 12), .ref (p2 13), .int 0, .int 0, .int 0, .int 0, .int 0, .int 100, .int 0, .int 0]))] := hD
    refine lv_istore (lv' := [(5, .int 0), (4, .int 0), (3, .int (-1)), (2, .int (-1)), (0, .ref (p0 0)), (1, .int 0)]) hx hb dX4_mostBy_58 hl (by decide) rfl (fun ls hl => ?_)
    refine lv_iload hx hb dX4_mostBy_60 (lv_at hl 0 rfl) ?_
    refine lv_iload_n hx hb dX4_mostBy_62 rfl (lv_at hl 2 rfl) ?_
    refine lv_icmp_ne (tgt := 84) hx hb dX4_mostBy_63 (by decide) (fun _ => ?_) (fun q9 => absurd q9 (by decide +kernel))
    refine lv_iconst (v := 0) hx hb dX4_mostBy_84 (by decide +kernel) ?_
    refine lv_istore (lv' := [(6, .int 0), (5, .int 0), (4, .int 0), (3, .int (-1)), (2, .int (-1)), (0, .ref (p0 0)), (1, .int 0)]) hx hb dX4_mostBy_85 hl (by decide) rfl (fun ls hl => ?_)
    refine lv_iload hx hb dX4_mostBy_87 (lv_at hl 1 rfl) ?_
    refine lv_iload_n hx hb dX4_mostBy_89 rfl (lv_at hl 3 rfl) ?_
    refine lv_icmp_gt (tgt := 112) hx hb dX4_mostBy_90 (by decide) (fun _ => ?_) (fun q9 => absurd q9 (by decide +kernel))
    refine lv_iload hx hb dX4_mostBy_112 (lv_at hl 2 rfl) ?_
    refine lv_istore_n (lv' := [(2, .int 0), (6, .int 0), (5, .int 0), (4, .int 0), (3, .int (-1)), (0, .ref (p0 0)), (1, .int 0)]) hx hb dX4_mostBy_114 rfl hl (by decide) rfl (fun ls hl => ?_)
    refine lv_iload hx hb dX4_mostBy_115 (lv_at hl 2 rfl) ?_
    refine lv_istore_n (lv' := [(3, .int 0), (2, .int 0), (6, .int 0), (5, .int 0), (4, .int 0), (0, .ref (p0 0)), (1, .int 0)]) hx hb dX4_mostBy_117 rfl hl (by decide) rfl (fun ls hl => ?_)
    refine lv_iinc (v := 1) (lv' := [(4, .int 1), (3, .int 0), (2, .int 0), (6, .int 0), (5, .int 0), (0, .ref (p0 0)), (1, .int 0)]) hx hb dX4_mostBy_118 hl (k := 4) rfl (by decide +kernel) (by decide) rfl (fun ls hl => ?_)
    refine lv_goto (tgt := 7) hx hb dX4_mostBy_121 (by decide) ?_
    refine lv_iload hx hb dX4_mostBy_7 (lv_at hl 0 rfl) ?_
    refine lv_iload_n hx hb dX4_mostBy_9 rfl (lv_at hl 6 rfl) ?_
    refine lv_iconst (v := 1) hx hb dX4_mostBy_10 (by decide +kernel) ?_
    refine lv_iadd hx hb dX4_mostBy_11 ?_
    refine k_int (v := 1) (by decide +kernel) ?_
    refine lv_aload_n hx hb dX4_mostBy_12 rfl (lv_at hl 5 rfl) ?_
    refine k_get (D := (dC, dI)) (ci := 4) (v := .int 1) (C := RX4) (T := TX4) (N := 6) hx hb hts hinX4 hown hK hP 1 rfl rfl 4 (by decide) w_0 rfl rfl dX4_mostBy_13 ?_
    refine lv_imul hx hb dX4_mostBy_16 ?_
    refine k_int (v := 1) (by decide +kernel) ?_
    refine lv_icmp_ge (tgt := 124) hx hb dX4_mostBy_17 (by decide) (fun _ => ?_) (fun q9 => absurd q9 (by decide +kernel))
    refine lv_iload_n hx hb dX4_mostBy_124 rfl (lv_at hl 2 rfl) ?_
    exact k_ri B hP hD hS dX4_mostBy_125 () [1, 0, 2] rfl rfl rfl (Nat.le_of_ble_eq_true rfl) (Nat.le_of_ble_eq_true rfl) rfl
  · obtain rfl : p1 = 1 := k_eqL (by decide +kernel) c_1
    refine lv_iconst (v := (-1)) hx hb dX4_mostBy_0 (by decide +kernel) ?_
    refine lv_istore_n (lv' := [(2, .int (-1)), (0, .ref (p0 0)), (1, .int 1)]) hx hb dX4_mostBy_1 rfl hl (by decide) rfl (fun ls hl => ?_)
    refine lv_iconst (v := (-1)) hx hb dX4_mostBy_2 (by decide +kernel) ?_
    refine lv_istore_n (lv' := [(3, .int (-1)), (2, .int (-1)), (0, .ref (p0 0)), (1, .int 1)]) hx hb dX4_mostBy_3 rfl hl (by decide) rfl (fun ls hl => ?_)
    refine lv_iconst (v := 0) hx hb dX4_mostBy_4 (by decide +kernel) ?_
    refine lv_istore (lv' := [(4, .int 0), (3, .int (-1)), (2, .int (-1)), (0, .ref (p0 0)), (1, .int 1)]) hx hb dX4_mostBy_5 hl (by decide) rfl (fun ls hl => ?_)
    refine lv_iload hx hb dX4_mostBy_7 (lv_at hl 0 rfl) ?_
    refine lv_iload_n hx hb dX4_mostBy_9 rfl (lv_at hl 4 rfl) ?_
    refine lv_iconst (v := 1) hx hb dX4_mostBy_10 (by decide +kernel) ?_
    refine lv_iadd hx hb dX4_mostBy_11 ?_
    refine k_int (v := 2) (by decide +kernel) ?_
    refine lv_aload_n hx hb dX4_mostBy_12 rfl (lv_at hl 3 rfl) ?_
    refine k_get (D := (dC, dI)) (ci := 4) (v := .int 1) (C := RX4) (T := TX4) (N := 6) hx hb hts hinX4 hown hK hP 0 rfl rfl 4 (by decide) w_0 rfl rfl dX4_mostBy_13 ?_
    refine lv_imul hx hb dX4_mostBy_16 ?_
    refine k_int (v := 2) (by decide +kernel) ?_
    refine lv_icmp_ge (tgt := 124) hx hb dX4_mostBy_17 (by decide) (fun q9 => absurd q9 (by decide +kernel)) (fun _ => ?_)
    refine lv_iload hx hb dX4_mostBy_20 (lv_at hl 0 rfl) ?_
    refine lv_aload_n hx hb dX4_mostBy_22 rfl (lv_at hl 3 rfl) ?_
    refine k_get (D := (dC, dI)) (ci := 4) (v := .ref (p0 1)) (C := RX4) (T := TX4) (N := 6) hx hb hts hinX4 hown hK hP 0 rfl rfl 0 (by decide) w_1 rfl rfl dX4_mostBy_23 ?_
    refine va_alen (v := 9216) hx hb hK hP 1 0 rfl rfl rfl dX4_mostBy_26 ?_
    refine lv_icmp_ge (tgt := 124) hx hb dX4_mostBy_27 (by decide) (fun q9 => absurd q9 (by decide +kernel)) (fun _ => ?_)
    refine lv_aload_n hx hb dX4_mostBy_30 rfl (lv_at hl 3 rfl) ?_
    refine k_get (D := (dC, dI)) (ci := 4) (v := .ref (p0 1)) (C := RX4) (T := TX4) (N := 6) hx hb hts hinX4 hown hK hP 0 rfl rfl 0 (by decide) w_1 rfl rfl dX4_mostBy_31 ?_
    refine lv_iload hx hb dX4_mostBy_34 (lv_at hl 0 rfl) ?_
    refine k_iald (v := 0) hx hb hK hP 1 0 0 rfl rfl rfl (Nat.le_of_ble_eq_true rfl) (Nat.le_of_ble_eq_true rfl) rfl dX4_mostBy_36 ?_
    refine lv_ldc (v := 2147483647) hx hb hown w_2 dX4_mostBy_37 ?_
    refine lv_icmp_ne (tgt := 45) hx hb dX4_mostBy_39 (by decide) (fun _ => ?_) (fun q9 => absurd q9 (by decide +kernel))
    refine lv_aload_n hx hb dX4_mostBy_45 rfl (lv_at hl 3 rfl) ?_
    refine k_get (D := (dC, dI)) (ci := 4) (v := .ref (p2 1)) (C := RX4) (T := TX4) (N := 6) hx hb hts hinX4 hown hK hP 0 rfl rfl 3 (by decide) w_3 rfl rfl dX4_mostBy_46 ?_
    refine lv_aload_n hx hb dX4_mostBy_49 rfl (lv_at hl 3 rfl) ?_
    refine lv_iload hx hb dX4_mostBy_50 (lv_at hl 0 rfl) ?_
    refine k_ci (wc := [((p0 0), .inr (4, [.ref (p0 1), .ref (p0 2), .ref (p0 3), .ref (p2 1), .int 1, .int 1]))]) (wr := [((p0 1), .inl (cI, 9216, .inl (upd (fun k => if 0 ≤ k ∧ k < 9 then 2147483647 else 0) 0 0))), ((p2 1), .inr (5, [.ref (p2 2), .ref (p2 3), .ref (p2 4), .ref (p2 5), .ref (p2 6), .ref (p2 7), .ref (p2 8), .ref (p2 9), .ref (p2 10), .ref (p2 11), .ref (p2 12), .ref (p2 13), .int 0, .int 0, .int 0, .int 0, .int 0, .int 100, .int 0, .int 0]))]) (fun hPc hDc hFc => va_runV (As := [.int 0]) (rest := [.ref (p2 1)]) ⟨hx, hb, hml, hown, hts⟩ (c_X4_setOf_v0 l dC dI cI cJ cZ cM p0 p2 H.size) (cwV 1 hts gX4_mostBy_X4_setOf rfl rfl rfl (by decide +kernel) ⟨(Nat.le_of_ble_eq_true rfl), (Nat.le_of_ble_eq_true rfl)⟩) (k_pV hPc hDc hK hN hC hS hFc hP (q0 := 0) (ci := 4) rfl rfl) rfl rfl hl.1 rfl (lv_room (Nat.le_of_ble_eq_true rfl)) dX4_mostBy_52 ⟨(Nat.le_of_ble_eq_true rfl), (Nat.le_of_ble_eq_true rfl)⟩) hP hD hS hA [0] [1, 2] rfl rfl rfl rfl (by decide) (fun _ => rfl) 0 0 rfl rfl (fun r_6 u_7 H locs hw hP hD hS => ?_)
    obtain rfl : r_6 = 0 := hw
    have hP : va_P (dC, dI) vwCl [((p0 1), .inl (cI, 9216, .inl (upd (fun k => if 0 ≤ k ∧ k < 9 then 2147483647 else 0) 0 0))), ((p2 1), .inr (5, [.ref (p2 2), .ref (p2 3), .ref (p2 4), .ref (p2 5), .ref (p2 6), .ref (p2 7), .ref (p2 8), .ref (p2 9), .ref (p2 10), .ref (p2 11), .ref (p2 12), .ref (p2 13), .int 0, .int 0, .int 0, .int 0, .int 0, .int 100, .int 0, .int 0])), ((p0 0), .inr (4, [.ref (p0 1), .ref (p0 2), .ref (p0 3), .ref (p2 1), .int 1, .int 1]))] H := hP
    have hD : va_D A [((p0 1), .inl (cI, 9216, .inl (upd (fun k => if 0 ≤ k ∧ k < 9 then 2147483647 else 0) 0 0))), ((p2 1), .inr (5, [.ref (p2 2), .ref (p2 3), .ref (p2 4), .ref (p2 5), .ref (p2 6), .ref (p2 7), .ref (p2 8), .ref (p2 9), .ref (p2 10), .ref (p2 11), .ref (p2 12), .ref (p2 13), .int 0, .int 0, .int 0, .int 0, .int 0, .int 100, .int 0, .int 0])), ((p0 0), .inr (4, [.ref (p0 1), .ref (p0 2), .ref (p0 3), .ref (p2 1), .int 1, .int 1]))] := hD
    refine k_ci (wc := [((p2 1), .inr (5, [.ref (p2 2), .ref (p2 3), .ref (p2 4), .ref (p2 5), .ref (p2 6), .ref (p2 7), .ref (p2 8), .ref (p2 9), .ref (p2 10), .ref (p2 11), .ref (p2 12), .ref (p2 13), .int 0, .int 0, .int 0, .int 0, .int 0, .int 100, .int 0, .int 0]))]) (wr := [((p0 1), .inl (cI, 9216, .inl (upd (fun k => if 0 ≤ k ∧ k < 9 then 2147483647 else 0) 0 0))), ((p0 0), .inr (4, [.ref (p0 1), .ref (p0 2), .ref (p0 3), .ref (p2 1), .int 1, .int 1]))]) (fun hPc hDc hFc => va_runV (As := [.int 0]) (rest := []) ⟨hx, hb, hml, hown, hts⟩ (c_X5_lastingWorthOf_v0 l dC dI cI cJ cZ cM p2 H.size) (cwV 1 hts gX4_mostBy_X5_lastingWorthOf rfl rfl rfl (by decide +kernel) ⟨(Nat.le_of_ble_eq_true rfl), (Nat.le_of_ble_eq_true rfl)⟩) (k_pV hPc hDc hK hN hC hS hFc hP (q0 := 1) (ci := 5) rfl rfl) rfl rfl hl.1 rfl (lv_room (Nat.le_of_ble_eq_true rfl)) dX4_mostBy_55 ⟨(Nat.le_of_ble_eq_true rfl), (Nat.le_of_ble_eq_true rfl)⟩) hP hD hS hA [1] [0, 2] rfl rfl rfl rfl (by decide) (fun _ => rfl) 0 0 rfl rfl (fun r_8 u_9 H locs hw hP hD hS => ?_)
    obtain rfl : r_8 = 0 := hw
    have hP : va_P (dC, dI) vwCl [((p0 1), .inl (cI, 9216, .inl (upd (fun k => if 0 ≤ k ∧ k < 9 then 2147483647 else 0) 0 0))), ((p0 0), .inr (4, [.ref (p0 1), .ref (p0 2), .ref (p0 3), .ref (p2 1), .int 1, .int 1])), ((p2 1), .inr (5, [.ref (p2 2), .ref (p2 3), .ref (p2 4), .ref (p2 5), .ref (p2 6), .ref (p2 7), .ref (p2 8), .ref (p2 9), .ref (p2 10), .ref (p2 11), .ref (p2 12), .ref (p2 13), .int 0, .int 0, .int 0, .int 0, .int 0, .int 100, .int 0, .int 0]))] H := hP
    have hD : va_D A [((p0 1), .inl (cI, 9216, .inl (upd (fun k => if 0 ≤ k ∧ k < 9 then 2147483647 else 0) 0 0))), ((p0 0), .inr (4, [.ref (p0 1), .ref (p0 2), .ref (p0 3), .ref (p2 1), .int 1, .int 1])), ((p2 1), .inr (5, [.ref (p2 2), .ref (p2 3), .ref (p2 4), .ref (p2 5), .ref (p2 6), .ref (p2 7), .ref (p2 8), .ref (p2 9), .ref (p2 10), .ref (p2 11), .ref (p2 12), .ref (p2 13), .int 0, .int 0, .int 0, .int 0, .int 0, .int 100, .int 0, .int 0]))] := hD
    refine lv_istore (lv' := [(5, .int 0), (4, .int 0), (3, .int (-1)), (2, .int (-1)), (0, .ref (p0 0)), (1, .int 1)]) hx hb dX4_mostBy_58 hl (by decide) rfl (fun ls hl => ?_)
    refine lv_iload hx hb dX4_mostBy_60 (lv_at hl 0 rfl) ?_
    refine lv_iload_n hx hb dX4_mostBy_62 rfl (lv_at hl 2 rfl) ?_
    refine lv_icmp_ne (tgt := 84) hx hb dX4_mostBy_63 (by decide) (fun _ => ?_) (fun q9 => absurd q9 (by decide +kernel))
    refine lv_iconst (v := 0) hx hb dX4_mostBy_84 (by decide +kernel) ?_
    refine lv_istore (lv' := [(6, .int 0), (5, .int 0), (4, .int 0), (3, .int (-1)), (2, .int (-1)), (0, .ref (p0 0)), (1, .int 1)]) hx hb dX4_mostBy_85 hl (by decide) rfl (fun ls hl => ?_)
    refine lv_iload hx hb dX4_mostBy_87 (lv_at hl 1 rfl) ?_
    refine lv_iload_n hx hb dX4_mostBy_89 rfl (lv_at hl 3 rfl) ?_
    refine lv_icmp_gt (tgt := 112) hx hb dX4_mostBy_90 (by decide) (fun _ => ?_) (fun q9 => absurd q9 (by decide +kernel))
    refine lv_iload hx hb dX4_mostBy_112 (lv_at hl 2 rfl) ?_
    refine lv_istore_n (lv' := [(2, .int 0), (6, .int 0), (5, .int 0), (4, .int 0), (3, .int (-1)), (0, .ref (p0 0)), (1, .int 1)]) hx hb dX4_mostBy_114 rfl hl (by decide) rfl (fun ls hl => ?_)
    refine lv_iload hx hb dX4_mostBy_115 (lv_at hl 2 rfl) ?_
    refine lv_istore_n (lv' := [(3, .int 0), (2, .int 0), (6, .int 0), (5, .int 0), (4, .int 0), (0, .ref (p0 0)), (1, .int 1)]) hx hb dX4_mostBy_117 rfl hl (by decide) rfl (fun ls hl => ?_)
    refine lv_iinc (v := 1) (lv' := [(4, .int 1), (3, .int 0), (2, .int 0), (6, .int 0), (5, .int 0), (0, .ref (p0 0)), (1, .int 1)]) hx hb dX4_mostBy_118 hl (k := 4) rfl (by decide +kernel) (by decide) rfl (fun ls hl => ?_)
    refine lv_goto (tgt := 7) hx hb dX4_mostBy_121 (by decide) ?_
    refine lv_iload hx hb dX4_mostBy_7 (lv_at hl 0 rfl) ?_
    refine lv_iload_n hx hb dX4_mostBy_9 rfl (lv_at hl 6 rfl) ?_
    refine lv_iconst (v := 1) hx hb dX4_mostBy_10 (by decide +kernel) ?_
    refine lv_iadd hx hb dX4_mostBy_11 ?_
    refine k_int (v := 2) (by decide +kernel) ?_
    refine lv_aload_n hx hb dX4_mostBy_12 rfl (lv_at hl 5 rfl) ?_
    refine k_get (D := (dC, dI)) (ci := 4) (v := .int 1) (C := RX4) (T := TX4) (N := 6) hx hb hts hinX4 hown hK hP 1 rfl rfl 4 (by decide) w_0 rfl rfl dX4_mostBy_13 ?_
    refine lv_imul hx hb dX4_mostBy_16 ?_
    refine k_int (v := 2) (by decide +kernel) ?_
    refine lv_icmp_ge (tgt := 124) hx hb dX4_mostBy_17 (by decide) (fun q9 => absurd q9 (by decide +kernel)) (fun _ => ?_)
    refine lv_iload hx hb dX4_mostBy_20 (lv_at hl 0 rfl) ?_
    refine lv_aload_n hx hb dX4_mostBy_22 rfl (lv_at hl 5 rfl) ?_
    refine k_get (D := (dC, dI)) (ci := 4) (v := .ref (p0 1)) (C := RX4) (T := TX4) (N := 6) hx hb hts hinX4 hown hK hP 1 rfl rfl 0 (by decide) w_1 rfl rfl dX4_mostBy_23 ?_
    refine va_alen (v := 9216) hx hb hK hP 0 0 rfl rfl rfl dX4_mostBy_26 ?_
    refine lv_icmp_ge (tgt := 124) hx hb dX4_mostBy_27 (by decide) (fun q9 => absurd q9 (by decide +kernel)) (fun _ => ?_)
    refine lv_aload_n hx hb dX4_mostBy_30 rfl (lv_at hl 5 rfl) ?_
    refine k_get (D := (dC, dI)) (ci := 4) (v := .ref (p0 1)) (C := RX4) (T := TX4) (N := 6) hx hb hts hinX4 hown hK hP 1 rfl rfl 0 (by decide) w_1 rfl rfl dX4_mostBy_31 ?_
    refine lv_iload hx hb dX4_mostBy_34 (lv_at hl 0 rfl) ?_
    refine k_iald (v := 2147483647) hx hb hK hP 0 0 1 rfl rfl rfl (Nat.le_of_ble_eq_true rfl) (Nat.le_of_ble_eq_true rfl) rfl dX4_mostBy_36 ?_
    refine lv_ldc (v := 2147483647) hx hb hown w_2 dX4_mostBy_37 ?_
    refine lv_icmp_ne (tgt := 45) hx hb dX4_mostBy_39 (by decide) (fun q9 => absurd q9 (by decide +kernel)) (fun _ => ?_)
    refine lv_goto (tgt := 118) hx hb dX4_mostBy_42 (by decide) ?_
    refine lv_iinc (v := 2) (lv' := [(4, .int 2), (3, .int 0), (2, .int 0), (6, .int 0), (5, .int 0), (0, .ref (p0 0)), (1, .int 1)]) hx hb dX4_mostBy_118 hl (k := 0) rfl (by decide +kernel) (by decide) rfl (fun ls hl => ?_)
    refine lv_goto (tgt := 7) hx hb dX4_mostBy_121 (by decide) ?_
    refine lv_iload hx hb dX4_mostBy_7 (lv_at hl 0 rfl) ?_
    refine lv_iload_n hx hb dX4_mostBy_9 rfl (lv_at hl 6 rfl) ?_
    refine lv_iconst (v := 1) hx hb dX4_mostBy_10 (by decide +kernel) ?_
    refine lv_iadd hx hb dX4_mostBy_11 ?_
    refine k_int (v := 2) (by decide +kernel) ?_
    refine lv_aload_n hx hb dX4_mostBy_12 rfl (lv_at hl 5 rfl) ?_
    refine k_get (D := (dC, dI)) (ci := 4) (v := .int 1) (C := RX4) (T := TX4) (N := 6) hx hb hts hinX4 hown hK hP 1 rfl rfl 4 (by decide) w_0 rfl rfl dX4_mostBy_13 ?_
    refine lv_imul hx hb dX4_mostBy_16 ?_
    refine k_int (v := 2) (by decide +kernel) ?_
    refine lv_icmp_ge (tgt := 124) hx hb dX4_mostBy_17 (by decide) (fun _ => ?_) (fun q9 => absurd q9 (by decide +kernel))
    refine lv_iload_n hx hb dX4_mostBy_124 rfl (lv_at hl 2 rfl) ?_
    exact k_ri B hP hD hS dX4_mostBy_125 () [1, 0, 2] rfl rfl rfl (Nat.le_of_ble_eq_true rfl) (Nat.le_of_ble_eq_true rfl) rfl
  · obtain rfl : p1 = 2 := k_eqL (by decide +kernel) c_1
    refine lv_iconst (v := (-1)) hx hb dX4_mostBy_0 (by decide +kernel) ?_
    refine lv_istore_n (lv' := [(2, .int (-1)), (0, .ref (p0 0)), (1, .int 2)]) hx hb dX4_mostBy_1 rfl hl (by decide) rfl (fun ls hl => ?_)
    refine lv_iconst (v := (-1)) hx hb dX4_mostBy_2 (by decide +kernel) ?_
    refine lv_istore_n (lv' := [(3, .int (-1)), (2, .int (-1)), (0, .ref (p0 0)), (1, .int 2)]) hx hb dX4_mostBy_3 rfl hl (by decide) rfl (fun ls hl => ?_)
    refine lv_iconst (v := 0) hx hb dX4_mostBy_4 (by decide +kernel) ?_
    refine lv_istore (lv' := [(4, .int 0), (3, .int (-1)), (2, .int (-1)), (0, .ref (p0 0)), (1, .int 2)]) hx hb dX4_mostBy_5 hl (by decide) rfl (fun ls hl => ?_)
    refine lv_iload hx hb dX4_mostBy_7 (lv_at hl 0 rfl) ?_
    refine lv_iload_n hx hb dX4_mostBy_9 rfl (lv_at hl 4 rfl) ?_
    refine lv_iconst (v := 1) hx hb dX4_mostBy_10 (by decide +kernel) ?_
    refine lv_iadd hx hb dX4_mostBy_11 ?_
    refine k_int (v := 3) (by decide +kernel) ?_
    refine lv_aload_n hx hb dX4_mostBy_12 rfl (lv_at hl 3 rfl) ?_
    refine k_get (D := (dC, dI)) (ci := 4) (v := .int 1) (C := RX4) (T := TX4) (N := 6) hx hb hts hinX4 hown hK hP 0 rfl rfl 4 (by decide) w_0 rfl rfl dX4_mostBy_13 ?_
    refine lv_imul hx hb dX4_mostBy_16 ?_
    refine k_int (v := 3) (by decide +kernel) ?_
    refine lv_icmp_ge (tgt := 124) hx hb dX4_mostBy_17 (by decide) (fun q9 => absurd q9 (by decide +kernel)) (fun _ => ?_)
    refine lv_iload hx hb dX4_mostBy_20 (lv_at hl 0 rfl) ?_
    refine lv_aload_n hx hb dX4_mostBy_22 rfl (lv_at hl 3 rfl) ?_
    refine k_get (D := (dC, dI)) (ci := 4) (v := .ref (p0 1)) (C := RX4) (T := TX4) (N := 6) hx hb hts hinX4 hown hK hP 0 rfl rfl 0 (by decide) w_1 rfl rfl dX4_mostBy_23 ?_
    refine va_alen (v := 9216) hx hb hK hP 1 0 rfl rfl rfl dX4_mostBy_26 ?_
    refine lv_icmp_ge (tgt := 124) hx hb dX4_mostBy_27 (by decide) (fun q9 => absurd q9 (by decide +kernel)) (fun _ => ?_)
    refine lv_aload_n hx hb dX4_mostBy_30 rfl (lv_at hl 3 rfl) ?_
    refine k_get (D := (dC, dI)) (ci := 4) (v := .ref (p0 1)) (C := RX4) (T := TX4) (N := 6) hx hb hts hinX4 hown hK hP 0 rfl rfl 0 (by decide) w_1 rfl rfl dX4_mostBy_31 ?_
    refine lv_iload hx hb dX4_mostBy_34 (lv_at hl 0 rfl) ?_
    refine k_iald (v := 0) hx hb hK hP 1 0 0 rfl rfl rfl (Nat.le_of_ble_eq_true rfl) (Nat.le_of_ble_eq_true rfl) rfl dX4_mostBy_36 ?_
    refine lv_ldc (v := 2147483647) hx hb hown w_2 dX4_mostBy_37 ?_
    refine lv_icmp_ne (tgt := 45) hx hb dX4_mostBy_39 (by decide) (fun _ => ?_) (fun q9 => absurd q9 (by decide +kernel))
    refine lv_aload_n hx hb dX4_mostBy_45 rfl (lv_at hl 3 rfl) ?_
    refine k_get (D := (dC, dI)) (ci := 4) (v := .ref (p2 1)) (C := RX4) (T := TX4) (N := 6) hx hb hts hinX4 hown hK hP 0 rfl rfl 3 (by decide) w_3 rfl rfl dX4_mostBy_46 ?_
    refine lv_aload_n hx hb dX4_mostBy_49 rfl (lv_at hl 3 rfl) ?_
    refine lv_iload hx hb dX4_mostBy_50 (lv_at hl 0 rfl) ?_
    refine k_ci (wc := [((p0 0), .inr (4, [.ref (p0 1), .ref (p0 2), .ref (p0 3), .ref (p2 1), .int 1, .int 1]))]) (wr := [((p0 1), .inl (cI, 9216, .inl (upd (fun k => if 0 ≤ k ∧ k < 9 then 2147483647 else 0) 0 0))), ((p2 1), .inr (5, [.ref (p2 2), .ref (p2 3), .ref (p2 4), .ref (p2 5), .ref (p2 6), .ref (p2 7), .ref (p2 8), .ref (p2 9), .ref (p2 10), .ref (p2 11), .ref (p2 12), .ref (p2 13), .int 0, .int 0, .int 0, .int 0, .int 0, .int 100, .int 0, .int 0]))]) (fun hPc hDc hFc => va_runV (As := [.int 0]) (rest := [.ref (p2 1)]) ⟨hx, hb, hml, hown, hts⟩ (c_X4_setOf_v0 l dC dI cI cJ cZ cM p0 p2 H.size) (cwV 1 hts gX4_mostBy_X4_setOf rfl rfl rfl (by decide +kernel) ⟨(Nat.le_of_ble_eq_true rfl), (Nat.le_of_ble_eq_true rfl)⟩) (k_pV hPc hDc hK hN hC hS hFc hP (q0 := 0) (ci := 4) rfl rfl) rfl rfl hl.1 rfl (lv_room (Nat.le_of_ble_eq_true rfl)) dX4_mostBy_52 ⟨(Nat.le_of_ble_eq_true rfl), (Nat.le_of_ble_eq_true rfl)⟩) hP hD hS hA [0] [1, 2] rfl rfl rfl rfl (by decide) (fun _ => rfl) 0 0 rfl rfl (fun r_10 u_11 H locs hw hP hD hS => ?_)
    obtain rfl : r_10 = 0 := hw
    have hP : va_P (dC, dI) vwCl [((p0 1), .inl (cI, 9216, .inl (upd (fun k => if 0 ≤ k ∧ k < 9 then 2147483647 else 0) 0 0))), ((p2 1), .inr (5, [.ref (p2 2), .ref (p2 3), .ref (p2 4), .ref (p2 5), .ref (p2 6), .ref (p2 7), .ref (p2 8), .ref (p2 9), .ref (p2 10), .ref (p2 11), .ref (p2 12), .ref (p2 13), .int 0, .int 0, .int 0, .int 0, .int 0, .int 100, .int 0, .int 0])), ((p0 0), .inr (4, [.ref (p0 1), .ref (p0 2), .ref (p0 3), .ref (p2 1), .int 1, .int 1]))] H := hP
    have hD : va_D A [((p0 1), .inl (cI, 9216, .inl (upd (fun k => if 0 ≤ k ∧ k < 9 then 2147483647 else 0) 0 0))), ((p2 1), .inr (5, [.ref (p2 2), .ref (p2 3), .ref (p2 4), .ref (p2 5), .ref (p2 6), .ref (p2 7), .ref (p2 8), .ref (p2 9), .ref (p2 10), .ref (p2 11), .ref (p2 12), .ref (p2 13), .int 0, .int 0, .int 0, .int 0, .int 0, .int 100, .int 0, .int 0])), ((p0 0), .inr (4, [.ref (p0 1), .ref (p0 2), .ref (p0 3), .ref (p2 1), .int 1, .int 1]))] := hD
    refine k_ci (wc := [((p2 1), .inr (5, [.ref (p2 2), .ref (p2 3), .ref (p2 4), .ref (p2 5), .ref (p2 6), .ref (p2 7), .ref (p2 8), .ref (p2 9), .ref (p2 10), .ref (p2 11), .ref (p2 12), .ref (p2 13), .int 0, .int 0, .int 0, .int 0, .int 0, .int 100, .int 0, .int 0]))]) (wr := [((p0 1), .inl (cI, 9216, .inl (upd (fun k => if 0 ≤ k ∧ k < 9 then 2147483647 else 0) 0 0))), ((p0 0), .inr (4, [.ref (p0 1), .ref (p0 2), .ref (p0 3), .ref (p2 1), .int 1, .int 1]))]) (fun hPc hDc hFc => va_runV (As := [.int 0]) (rest := []) ⟨hx, hb, hml, hown, hts⟩ (c_X5_lastingWorthOf_v0 l dC dI cI cJ cZ cM p2 H.size) (cwV 1 hts gX4_mostBy_X5_lastingWorthOf rfl rfl rfl (by decide +kernel) ⟨(Nat.le_of_ble_eq_true rfl), (Nat.le_of_ble_eq_true rfl)⟩) (k_pV hPc hDc hK hN hC hS hFc hP (q0 := 1) (ci := 5) rfl rfl) rfl rfl hl.1 rfl (lv_room (Nat.le_of_ble_eq_true rfl)) dX4_mostBy_55 ⟨(Nat.le_of_ble_eq_true rfl), (Nat.le_of_ble_eq_true rfl)⟩) hP hD hS hA [1] [0, 2] rfl rfl rfl rfl (by decide) (fun _ => rfl) 0 0 rfl rfl (fun r_12 u_13 H locs hw hP hD hS => ?_)
    obtain rfl : r_12 = 0 := hw
    have hP : va_P (dC, dI) vwCl [((p0 1), .inl (cI, 9216, .inl (upd (fun k => if 0 ≤ k ∧ k < 9 then 2147483647 else 0) 0 0))), ((p0 0), .inr (4, [.ref (p0 1), .ref (p0 2), .ref (p0 3), .ref (p2 1), .int 1, .int 1])), ((p2 1), .inr (5, [.ref (p2 2), .ref (p2 3), .ref (p2 4), .ref (p2 5), .ref (p2 6), .ref (p2 7), .ref (p2 8), .ref (p2 9), .ref (p2 10), .ref (p2 11), .ref (p2 12), .ref (p2 13), .int 0, .int 0, .int 0, .int 0, .int 0, .int 100, .int 0, .int 0]))] H := hP
    have hD : va_D A [((p0 1), .inl (cI, 9216, .inl (upd (fun k => if 0 ≤ k ∧ k < 9 then 2147483647 else 0) 0 0))), ((p0 0), .inr (4, [.ref (p0 1), .ref (p0 2), .ref (p0 3), .ref (p2 1), .int 1, .int 1])), ((p2 1), .inr (5, [.ref (p2 2), .ref (p2 3), .ref (p2 4), .ref (p2 5), .ref (p2 6), .ref (p2 7), .ref (p2 8), .ref (p2 9), .ref (p2 10), .ref (p2 11), .ref (p2 12), .ref (p2 13), .int 0, .int 0, .int 0, .int 0, .int 0, .int 100, .int 0, .int 0]))] := hD
    refine lv_istore (lv' := [(5, .int 0), (4, .int 0), (3, .int (-1)), (2, .int (-1)), (0, .ref (p0 0)), (1, .int 2)]) hx hb dX4_mostBy_58 hl (by decide) rfl (fun ls hl => ?_)
    refine lv_iload hx hb dX4_mostBy_60 (lv_at hl 0 rfl) ?_
    refine lv_iload_n hx hb dX4_mostBy_62 rfl (lv_at hl 2 rfl) ?_
    refine lv_icmp_ne (tgt := 84) hx hb dX4_mostBy_63 (by decide) (fun _ => ?_) (fun q9 => absurd q9 (by decide +kernel))
    refine lv_iconst (v := 0) hx hb dX4_mostBy_84 (by decide +kernel) ?_
    refine lv_istore (lv' := [(6, .int 0), (5, .int 0), (4, .int 0), (3, .int (-1)), (2, .int (-1)), (0, .ref (p0 0)), (1, .int 2)]) hx hb dX4_mostBy_85 hl (by decide) rfl (fun ls hl => ?_)
    refine lv_iload hx hb dX4_mostBy_87 (lv_at hl 1 rfl) ?_
    refine lv_iload_n hx hb dX4_mostBy_89 rfl (lv_at hl 3 rfl) ?_
    refine lv_icmp_gt (tgt := 112) hx hb dX4_mostBy_90 (by decide) (fun _ => ?_) (fun q9 => absurd q9 (by decide +kernel))
    refine lv_iload hx hb dX4_mostBy_112 (lv_at hl 2 rfl) ?_
    refine lv_istore_n (lv' := [(2, .int 0), (6, .int 0), (5, .int 0), (4, .int 0), (3, .int (-1)), (0, .ref (p0 0)), (1, .int 2)]) hx hb dX4_mostBy_114 rfl hl (by decide) rfl (fun ls hl => ?_)
    refine lv_iload hx hb dX4_mostBy_115 (lv_at hl 2 rfl) ?_
    refine lv_istore_n (lv' := [(3, .int 0), (2, .int 0), (6, .int 0), (5, .int 0), (4, .int 0), (0, .ref (p0 0)), (1, .int 2)]) hx hb dX4_mostBy_117 rfl hl (by decide) rfl (fun ls hl => ?_)
    refine lv_iinc (v := 1) (lv' := [(4, .int 1), (3, .int 0), (2, .int 0), (6, .int 0), (5, .int 0), (0, .ref (p0 0)), (1, .int 2)]) hx hb dX4_mostBy_118 hl (k := 4) rfl (by decide +kernel) (by decide) rfl (fun ls hl => ?_)
    refine lv_goto (tgt := 7) hx hb dX4_mostBy_121 (by decide) ?_
    refine lv_iload hx hb dX4_mostBy_7 (lv_at hl 0 rfl) ?_
    refine lv_iload_n hx hb dX4_mostBy_9 rfl (lv_at hl 6 rfl) ?_
    refine lv_iconst (v := 1) hx hb dX4_mostBy_10 (by decide +kernel) ?_
    refine lv_iadd hx hb dX4_mostBy_11 ?_
    refine k_int (v := 3) (by decide +kernel) ?_
    refine lv_aload_n hx hb dX4_mostBy_12 rfl (lv_at hl 5 rfl) ?_
    refine k_get (D := (dC, dI)) (ci := 4) (v := .int 1) (C := RX4) (T := TX4) (N := 6) hx hb hts hinX4 hown hK hP 1 rfl rfl 4 (by decide) w_0 rfl rfl dX4_mostBy_13 ?_
    refine lv_imul hx hb dX4_mostBy_16 ?_
    refine k_int (v := 3) (by decide +kernel) ?_
    refine lv_icmp_ge (tgt := 124) hx hb dX4_mostBy_17 (by decide) (fun q9 => absurd q9 (by decide +kernel)) (fun _ => ?_)
    refine lv_iload hx hb dX4_mostBy_20 (lv_at hl 0 rfl) ?_
    refine lv_aload_n hx hb dX4_mostBy_22 rfl (lv_at hl 5 rfl) ?_
    refine k_get (D := (dC, dI)) (ci := 4) (v := .ref (p0 1)) (C := RX4) (T := TX4) (N := 6) hx hb hts hinX4 hown hK hP 1 rfl rfl 0 (by decide) w_1 rfl rfl dX4_mostBy_23 ?_
    refine va_alen (v := 9216) hx hb hK hP 0 0 rfl rfl rfl dX4_mostBy_26 ?_
    refine lv_icmp_ge (tgt := 124) hx hb dX4_mostBy_27 (by decide) (fun q9 => absurd q9 (by decide +kernel)) (fun _ => ?_)
    refine lv_aload_n hx hb dX4_mostBy_30 rfl (lv_at hl 5 rfl) ?_
    refine k_get (D := (dC, dI)) (ci := 4) (v := .ref (p0 1)) (C := RX4) (T := TX4) (N := 6) hx hb hts hinX4 hown hK hP 1 rfl rfl 0 (by decide) w_1 rfl rfl dX4_mostBy_31 ?_
    refine lv_iload hx hb dX4_mostBy_34 (lv_at hl 0 rfl) ?_
    refine k_iald (v := 2147483647) hx hb hK hP 0 0 1 rfl rfl rfl (Nat.le_of_ble_eq_true rfl) (Nat.le_of_ble_eq_true rfl) rfl dX4_mostBy_36 ?_
    refine lv_ldc (v := 2147483647) hx hb hown w_2 dX4_mostBy_37 ?_
    refine lv_icmp_ne (tgt := 45) hx hb dX4_mostBy_39 (by decide) (fun q9 => absurd q9 (by decide +kernel)) (fun _ => ?_)
    refine lv_goto (tgt := 118) hx hb dX4_mostBy_42 (by decide) ?_
    refine lv_iinc (v := 2) (lv' := [(4, .int 2), (3, .int 0), (2, .int 0), (6, .int 0), (5, .int 0), (0, .ref (p0 0)), (1, .int 2)]) hx hb dX4_mostBy_118 hl (k := 0) rfl (by decide +kernel) (by decide) rfl (fun ls hl => ?_)
    refine lv_goto (tgt := 7) hx hb dX4_mostBy_121 (by decide) ?_
    refine lv_iload hx hb dX4_mostBy_7 (lv_at hl 0 rfl) ?_
    refine lv_iload_n hx hb dX4_mostBy_9 rfl (lv_at hl 6 rfl) ?_
    refine lv_iconst (v := 1) hx hb dX4_mostBy_10 (by decide +kernel) ?_
    refine lv_iadd hx hb dX4_mostBy_11 ?_
    refine k_int (v := 3) (by decide +kernel) ?_
    refine lv_aload_n hx hb dX4_mostBy_12 rfl (lv_at hl 5 rfl) ?_
    refine k_get (D := (dC, dI)) (ci := 4) (v := .int 1) (C := RX4) (T := TX4) (N := 6) hx hb hts hinX4 hown hK hP 1 rfl rfl 4 (by decide) w_0 rfl rfl dX4_mostBy_13 ?_
    refine lv_imul hx hb dX4_mostBy_16 ?_
    refine k_int (v := 3) (by decide +kernel) ?_
    refine lv_icmp_ge (tgt := 124) hx hb dX4_mostBy_17 (by decide) (fun q9 => absurd q9 (by decide +kernel)) (fun _ => ?_)
    refine lv_iload hx hb dX4_mostBy_20 (lv_at hl 0 rfl) ?_
    refine lv_aload_n hx hb dX4_mostBy_22 rfl (lv_at hl 5 rfl) ?_
    refine k_get (D := (dC, dI)) (ci := 4) (v := .ref (p0 1)) (C := RX4) (T := TX4) (N := 6) hx hb hts hinX4 hown hK hP 1 rfl rfl 0 (by decide) w_1 rfl rfl dX4_mostBy_23 ?_
    refine va_alen (v := 9216) hx hb hK hP 0 0 rfl rfl rfl dX4_mostBy_26 ?_
    refine lv_icmp_ge (tgt := 124) hx hb dX4_mostBy_27 (by decide) (fun q9 => absurd q9 (by decide +kernel)) (fun _ => ?_)
    refine lv_aload_n hx hb dX4_mostBy_30 rfl (lv_at hl 5 rfl) ?_
    refine k_get (D := (dC, dI)) (ci := 4) (v := .ref (p0 1)) (C := RX4) (T := TX4) (N := 6) hx hb hts hinX4 hown hK hP 1 rfl rfl 0 (by decide) w_1 rfl rfl dX4_mostBy_31 ?_
    refine lv_iload hx hb dX4_mostBy_34 (lv_at hl 0 rfl) ?_
    refine k_iald (v := 2147483647) hx hb hK hP 0 0 2 rfl rfl rfl (Nat.le_of_ble_eq_true rfl) (Nat.le_of_ble_eq_true rfl) rfl dX4_mostBy_36 ?_
    refine lv_ldc (v := 2147483647) hx hb hown w_2 dX4_mostBy_37 ?_
    refine lv_icmp_ne (tgt := 45) hx hb dX4_mostBy_39 (by decide) (fun q9 => absurd q9 (by decide +kernel)) (fun _ => ?_)
    refine lv_goto (tgt := 118) hx hb dX4_mostBy_42 (by decide) ?_
    refine lv_iinc (v := 3) (lv' := [(4, .int 3), (3, .int 0), (2, .int 0), (6, .int 0), (5, .int 0), (0, .ref (p0 0)), (1, .int 2)]) hx hb dX4_mostBy_118 hl (k := 0) rfl (by decide +kernel) (by decide) rfl (fun ls hl => ?_)
    refine lv_goto (tgt := 7) hx hb dX4_mostBy_121 (by decide) ?_
    refine lv_iload hx hb dX4_mostBy_7 (lv_at hl 0 rfl) ?_
    refine lv_iload_n hx hb dX4_mostBy_9 rfl (lv_at hl 6 rfl) ?_
    refine lv_iconst (v := 1) hx hb dX4_mostBy_10 (by decide +kernel) ?_
    refine lv_iadd hx hb dX4_mostBy_11 ?_
    refine k_int (v := 3) (by decide +kernel) ?_
    refine lv_aload_n hx hb dX4_mostBy_12 rfl (lv_at hl 5 rfl) ?_
    refine k_get (D := (dC, dI)) (ci := 4) (v := .int 1) (C := RX4) (T := TX4) (N := 6) hx hb hts hinX4 hown hK hP 1 rfl rfl 4 (by decide) w_0 rfl rfl dX4_mostBy_13 ?_
    refine lv_imul hx hb dX4_mostBy_16 ?_
    refine k_int (v := 3) (by decide +kernel) ?_
    refine lv_icmp_ge (tgt := 124) hx hb dX4_mostBy_17 (by decide) (fun _ => ?_) (fun q9 => absurd q9 (by decide +kernel))
    refine lv_iload_n hx hb dX4_mostBy_124 rfl (lv_at hl 2 rfl) ?_
    exact k_ri B hP hD hS dX4_mostBy_125 () [1, 0, 2] rfl rfl rfl (Nat.le_of_ble_eq_true rfl) (Nat.le_of_ble_eq_true rfl) rfl
  · obtain rfl : p1 = 3 := k_eqL (by decide +kernel) c_1
    refine lv_iconst (v := (-1)) hx hb dX4_mostBy_0 (by decide +kernel) ?_
    refine lv_istore_n (lv' := [(2, .int (-1)), (0, .ref (p0 0)), (1, .int 3)]) hx hb dX4_mostBy_1 rfl hl (by decide) rfl (fun ls hl => ?_)
    refine lv_iconst (v := (-1)) hx hb dX4_mostBy_2 (by decide +kernel) ?_
    refine lv_istore_n (lv' := [(3, .int (-1)), (2, .int (-1)), (0, .ref (p0 0)), (1, .int 3)]) hx hb dX4_mostBy_3 rfl hl (by decide) rfl (fun ls hl => ?_)
    refine lv_iconst (v := 0) hx hb dX4_mostBy_4 (by decide +kernel) ?_
    refine lv_istore (lv' := [(4, .int 0), (3, .int (-1)), (2, .int (-1)), (0, .ref (p0 0)), (1, .int 3)]) hx hb dX4_mostBy_5 hl (by decide) rfl (fun ls hl => ?_)
    refine lv_iload hx hb dX4_mostBy_7 (lv_at hl 0 rfl) ?_
    refine lv_iload_n hx hb dX4_mostBy_9 rfl (lv_at hl 4 rfl) ?_
    refine lv_iconst (v := 1) hx hb dX4_mostBy_10 (by decide +kernel) ?_
    refine lv_iadd hx hb dX4_mostBy_11 ?_
    refine k_int (v := 4) (by decide +kernel) ?_
    refine lv_aload_n hx hb dX4_mostBy_12 rfl (lv_at hl 3 rfl) ?_
    refine k_get (D := (dC, dI)) (ci := 4) (v := .int 1) (C := RX4) (T := TX4) (N := 6) hx hb hts hinX4 hown hK hP 0 rfl rfl 4 (by decide) w_0 rfl rfl dX4_mostBy_13 ?_
    refine lv_imul hx hb dX4_mostBy_16 ?_
    refine k_int (v := 4) (by decide +kernel) ?_
    refine lv_icmp_ge (tgt := 124) hx hb dX4_mostBy_17 (by decide) (fun q9 => absurd q9 (by decide +kernel)) (fun _ => ?_)
    refine lv_iload hx hb dX4_mostBy_20 (lv_at hl 0 rfl) ?_
    refine lv_aload_n hx hb dX4_mostBy_22 rfl (lv_at hl 3 rfl) ?_
    refine k_get (D := (dC, dI)) (ci := 4) (v := .ref (p0 1)) (C := RX4) (T := TX4) (N := 6) hx hb hts hinX4 hown hK hP 0 rfl rfl 0 (by decide) w_1 rfl rfl dX4_mostBy_23 ?_
    refine va_alen (v := 9216) hx hb hK hP 1 0 rfl rfl rfl dX4_mostBy_26 ?_
    refine lv_icmp_ge (tgt := 124) hx hb dX4_mostBy_27 (by decide) (fun q9 => absurd q9 (by decide +kernel)) (fun _ => ?_)
    refine lv_aload_n hx hb dX4_mostBy_30 rfl (lv_at hl 3 rfl) ?_
    refine k_get (D := (dC, dI)) (ci := 4) (v := .ref (p0 1)) (C := RX4) (T := TX4) (N := 6) hx hb hts hinX4 hown hK hP 0 rfl rfl 0 (by decide) w_1 rfl rfl dX4_mostBy_31 ?_
    refine lv_iload hx hb dX4_mostBy_34 (lv_at hl 0 rfl) ?_
    refine k_iald (v := 0) hx hb hK hP 1 0 0 rfl rfl rfl (Nat.le_of_ble_eq_true rfl) (Nat.le_of_ble_eq_true rfl) rfl dX4_mostBy_36 ?_
    refine lv_ldc (v := 2147483647) hx hb hown w_2 dX4_mostBy_37 ?_
    refine lv_icmp_ne (tgt := 45) hx hb dX4_mostBy_39 (by decide) (fun _ => ?_) (fun q9 => absurd q9 (by decide +kernel))
    refine lv_aload_n hx hb dX4_mostBy_45 rfl (lv_at hl 3 rfl) ?_
    refine k_get (D := (dC, dI)) (ci := 4) (v := .ref (p2 1)) (C := RX4) (T := TX4) (N := 6) hx hb hts hinX4 hown hK hP 0 rfl rfl 3 (by decide) w_3 rfl rfl dX4_mostBy_46 ?_
    refine lv_aload_n hx hb dX4_mostBy_49 rfl (lv_at hl 3 rfl) ?_
    refine lv_iload hx hb dX4_mostBy_50 (lv_at hl 0 rfl) ?_
    refine k_ci (wc := [((p0 0), .inr (4, [.ref (p0 1), .ref (p0 2), .ref (p0 3), .ref (p2 1), .int 1, .int 1]))]) (wr := [((p0 1), .inl (cI, 9216, .inl (upd (fun k => if 0 ≤ k ∧ k < 9 then 2147483647 else 0) 0 0))), ((p2 1), .inr (5, [.ref (p2 2), .ref (p2 3), .ref (p2 4), .ref (p2 5), .ref (p2 6), .ref (p2 7), .ref (p2 8), .ref (p2 9), .ref (p2 10), .ref (p2 11), .ref (p2 12), .ref (p2 13), .int 0, .int 0, .int 0, .int 0, .int 0, .int 100, .int 0, .int 0]))]) (fun hPc hDc hFc => va_runV (As := [.int 0]) (rest := [.ref (p2 1)]) ⟨hx, hb, hml, hown, hts⟩ (c_X4_setOf_v0 l dC dI cI cJ cZ cM p0 p2 H.size) (cwV 1 hts gX4_mostBy_X4_setOf rfl rfl rfl (by decide +kernel) ⟨(Nat.le_of_ble_eq_true rfl), (Nat.le_of_ble_eq_true rfl)⟩) (k_pV hPc hDc hK hN hC hS hFc hP (q0 := 0) (ci := 4) rfl rfl) rfl rfl hl.1 rfl (lv_room (Nat.le_of_ble_eq_true rfl)) dX4_mostBy_52 ⟨(Nat.le_of_ble_eq_true rfl), (Nat.le_of_ble_eq_true rfl)⟩) hP hD hS hA [0] [1, 2] rfl rfl rfl rfl (by decide) (fun _ => rfl) 0 0 rfl rfl (fun r_14 u_15 H locs hw hP hD hS => ?_)
    obtain rfl : r_14 = 0 := hw
    have hP : va_P (dC, dI) vwCl [((p0 1), .inl (cI, 9216, .inl (upd (fun k => if 0 ≤ k ∧ k < 9 then 2147483647 else 0) 0 0))), ((p2 1), .inr (5, [.ref (p2 2), .ref (p2 3), .ref (p2 4), .ref (p2 5), .ref (p2 6), .ref (p2 7), .ref (p2 8), .ref (p2 9), .ref (p2 10), .ref (p2 11), .ref (p2 12), .ref (p2 13), .int 0, .int 0, .int 0, .int 0, .int 0, .int 100, .int 0, .int 0])), ((p0 0), .inr (4, [.ref (p0 1), .ref (p0 2), .ref (p0 3), .ref (p2 1), .int 1, .int 1]))] H := hP
    have hD : va_D A [((p0 1), .inl (cI, 9216, .inl (upd (fun k => if 0 ≤ k ∧ k < 9 then 2147483647 else 0) 0 0))), ((p2 1), .inr (5, [.ref (p2 2), .ref (p2 3), .ref (p2 4), .ref (p2 5), .ref (p2 6), .ref (p2 7), .ref (p2 8), .ref (p2 9), .ref (p2 10), .ref (p2 11), .ref (p2 12), .ref (p2 13), .int 0, .int 0, .int 0, .int 0, .int 0, .int 100, .int 0, .int 0])), ((p0 0), .inr (4, [.ref (p0 1), .ref (p0 2), .ref (p0 3), .ref (p2 1), .int 1, .int 1]))] := hD
    refine k_ci (wc := [((p2 1), .inr (5, [.ref (p2 2), .ref (p2 3), .ref (p2 4), .ref (p2 5), .ref (p2 6), .ref (p2 7), .ref (p2 8), .ref (p2 9), .ref (p2 10), .ref (p2 11), .ref (p2 12), .ref (p2 13), .int 0, .int 0, .int 0, .int 0, .int 0, .int 100, .int 0, .int 0]))]) (wr := [((p0 1), .inl (cI, 9216, .inl (upd (fun k => if 0 ≤ k ∧ k < 9 then 2147483647 else 0) 0 0))), ((p0 0), .inr (4, [.ref (p0 1), .ref (p0 2), .ref (p0 3), .ref (p2 1), .int 1, .int 1]))]) (fun hPc hDc hFc => va_runV (As := [.int 0]) (rest := []) ⟨hx, hb, hml, hown, hts⟩ (c_X5_lastingWorthOf_v0 l dC dI cI cJ cZ cM p2 H.size) (cwV 1 hts gX4_mostBy_X5_lastingWorthOf rfl rfl rfl (by decide +kernel) ⟨(Nat.le_of_ble_eq_true rfl), (Nat.le_of_ble_eq_true rfl)⟩) (k_pV hPc hDc hK hN hC hS hFc hP (q0 := 1) (ci := 5) rfl rfl) rfl rfl hl.1 rfl (lv_room (Nat.le_of_ble_eq_true rfl)) dX4_mostBy_55 ⟨(Nat.le_of_ble_eq_true rfl), (Nat.le_of_ble_eq_true rfl)⟩) hP hD hS hA [1] [0, 2] rfl rfl rfl rfl (by decide) (fun _ => rfl) 0 0 rfl rfl (fun r_16 u_17 H locs hw hP hD hS => ?_)
    obtain rfl : r_16 = 0 := hw
    have hP : va_P (dC, dI) vwCl [((p0 1), .inl (cI, 9216, .inl (upd (fun k => if 0 ≤ k ∧ k < 9 then 2147483647 else 0) 0 0))), ((p0 0), .inr (4, [.ref (p0 1), .ref (p0 2), .ref (p0 3), .ref (p2 1), .int 1, .int 1])), ((p2 1), .inr (5, [.ref (p2 2), .ref (p2 3), .ref (p2 4), .ref (p2 5), .ref (p2 6), .ref (p2 7), .ref (p2 8), .ref (p2 9), .ref (p2 10), .ref (p2 11), .ref (p2 12), .ref (p2 13), .int 0, .int 0, .int 0, .int 0, .int 0, .int 100, .int 0, .int 0]))] H := hP
    have hD : va_D A [((p0 1), .inl (cI, 9216, .inl (upd (fun k => if 0 ≤ k ∧ k < 9 then 2147483647 else 0) 0 0))), ((p0 0), .inr (4, [.ref (p0 1), .ref (p0 2), .ref (p0 3), .ref (p2 1), .int 1, .int 1])), ((p2 1), .inr (5, [.ref (p2 2), .ref (p2 3), .ref (p2 4), .ref (p2 5), .ref (p2 6), .ref (p2 7), .ref (p2 8), .ref (p2 9), .ref (p2 10), .ref (p2 11), .ref (p2 12), .ref (p2 13), .int 0, .int 0, .int 0, .int 0, .int 0, .int 100, .int 0, .int 0]))] := hD
    refine lv_istore (lv' := [(5, .int 0), (4, .int 0), (3, .int (-1)), (2, .int (-1)), (0, .ref (p0 0)), (1, .int 3)]) hx hb dX4_mostBy_58 hl (by decide) rfl (fun ls hl => ?_)
    refine lv_iload hx hb dX4_mostBy_60 (lv_at hl 0 rfl) ?_
    refine lv_iload_n hx hb dX4_mostBy_62 rfl (lv_at hl 2 rfl) ?_
    refine lv_icmp_ne (tgt := 84) hx hb dX4_mostBy_63 (by decide) (fun _ => ?_) (fun q9 => absurd q9 (by decide +kernel))
    refine lv_iconst (v := 0) hx hb dX4_mostBy_84 (by decide +kernel) ?_
    refine lv_istore (lv' := [(6, .int 0), (5, .int 0), (4, .int 0), (3, .int (-1)), (2, .int (-1)), (0, .ref (p0 0)), (1, .int 3)]) hx hb dX4_mostBy_85 hl (by decide) rfl (fun ls hl => ?_)
    refine lv_iload hx hb dX4_mostBy_87 (lv_at hl 1 rfl) ?_
    refine lv_iload_n hx hb dX4_mostBy_89 rfl (lv_at hl 3 rfl) ?_
    refine lv_icmp_gt (tgt := 112) hx hb dX4_mostBy_90 (by decide) (fun _ => ?_) (fun q9 => absurd q9 (by decide +kernel))
    refine lv_iload hx hb dX4_mostBy_112 (lv_at hl 2 rfl) ?_
    refine lv_istore_n (lv' := [(2, .int 0), (6, .int 0), (5, .int 0), (4, .int 0), (3, .int (-1)), (0, .ref (p0 0)), (1, .int 3)]) hx hb dX4_mostBy_114 rfl hl (by decide) rfl (fun ls hl => ?_)
    refine lv_iload hx hb dX4_mostBy_115 (lv_at hl 2 rfl) ?_
    refine lv_istore_n (lv' := [(3, .int 0), (2, .int 0), (6, .int 0), (5, .int 0), (4, .int 0), (0, .ref (p0 0)), (1, .int 3)]) hx hb dX4_mostBy_117 rfl hl (by decide) rfl (fun ls hl => ?_)
    refine lv_iinc (v := 1) (lv' := [(4, .int 1), (3, .int 0), (2, .int 0), (6, .int 0), (5, .int 0), (0, .ref (p0 0)), (1, .int 3)]) hx hb dX4_mostBy_118 hl (k := 4) rfl (by decide +kernel) (by decide) rfl (fun ls hl => ?_)
    refine lv_goto (tgt := 7) hx hb dX4_mostBy_121 (by decide) ?_
    refine lv_iload hx hb dX4_mostBy_7 (lv_at hl 0 rfl) ?_
    refine lv_iload_n hx hb dX4_mostBy_9 rfl (lv_at hl 6 rfl) ?_
    refine lv_iconst (v := 1) hx hb dX4_mostBy_10 (by decide +kernel) ?_
    refine lv_iadd hx hb dX4_mostBy_11 ?_
    refine k_int (v := 4) (by decide +kernel) ?_
    refine lv_aload_n hx hb dX4_mostBy_12 rfl (lv_at hl 5 rfl) ?_
    refine k_get (D := (dC, dI)) (ci := 4) (v := .int 1) (C := RX4) (T := TX4) (N := 6) hx hb hts hinX4 hown hK hP 1 rfl rfl 4 (by decide) w_0 rfl rfl dX4_mostBy_13 ?_
    refine lv_imul hx hb dX4_mostBy_16 ?_
    refine k_int (v := 4) (by decide +kernel) ?_
    refine lv_icmp_ge (tgt := 124) hx hb dX4_mostBy_17 (by decide) (fun q9 => absurd q9 (by decide +kernel)) (fun _ => ?_)
    refine lv_iload hx hb dX4_mostBy_20 (lv_at hl 0 rfl) ?_
    refine lv_aload_n hx hb dX4_mostBy_22 rfl (lv_at hl 5 rfl) ?_
    refine k_get (D := (dC, dI)) (ci := 4) (v := .ref (p0 1)) (C := RX4) (T := TX4) (N := 6) hx hb hts hinX4 hown hK hP 1 rfl rfl 0 (by decide) w_1 rfl rfl dX4_mostBy_23 ?_
    refine va_alen (v := 9216) hx hb hK hP 0 0 rfl rfl rfl dX4_mostBy_26 ?_
    refine lv_icmp_ge (tgt := 124) hx hb dX4_mostBy_27 (by decide) (fun q9 => absurd q9 (by decide +kernel)) (fun _ => ?_)
    refine lv_aload_n hx hb dX4_mostBy_30 rfl (lv_at hl 5 rfl) ?_
    refine k_get (D := (dC, dI)) (ci := 4) (v := .ref (p0 1)) (C := RX4) (T := TX4) (N := 6) hx hb hts hinX4 hown hK hP 1 rfl rfl 0 (by decide) w_1 rfl rfl dX4_mostBy_31 ?_
    refine lv_iload hx hb dX4_mostBy_34 (lv_at hl 0 rfl) ?_
    refine k_iald (v := 2147483647) hx hb hK hP 0 0 1 rfl rfl rfl (Nat.le_of_ble_eq_true rfl) (Nat.le_of_ble_eq_true rfl) rfl dX4_mostBy_36 ?_
    refine lv_ldc (v := 2147483647) hx hb hown w_2 dX4_mostBy_37 ?_
    refine lv_icmp_ne (tgt := 45) hx hb dX4_mostBy_39 (by decide) (fun q9 => absurd q9 (by decide +kernel)) (fun _ => ?_)
    refine lv_goto (tgt := 118) hx hb dX4_mostBy_42 (by decide) ?_
    refine lv_iinc (v := 2) (lv' := [(4, .int 2), (3, .int 0), (2, .int 0), (6, .int 0), (5, .int 0), (0, .ref (p0 0)), (1, .int 3)]) hx hb dX4_mostBy_118 hl (k := 0) rfl (by decide +kernel) (by decide) rfl (fun ls hl => ?_)
    refine lv_goto (tgt := 7) hx hb dX4_mostBy_121 (by decide) ?_
    refine lv_iload hx hb dX4_mostBy_7 (lv_at hl 0 rfl) ?_
    refine lv_iload_n hx hb dX4_mostBy_9 rfl (lv_at hl 6 rfl) ?_
    refine lv_iconst (v := 1) hx hb dX4_mostBy_10 (by decide +kernel) ?_
    refine lv_iadd hx hb dX4_mostBy_11 ?_
    refine k_int (v := 4) (by decide +kernel) ?_
    refine lv_aload_n hx hb dX4_mostBy_12 rfl (lv_at hl 5 rfl) ?_
    refine k_get (D := (dC, dI)) (ci := 4) (v := .int 1) (C := RX4) (T := TX4) (N := 6) hx hb hts hinX4 hown hK hP 1 rfl rfl 4 (by decide) w_0 rfl rfl dX4_mostBy_13 ?_
    refine lv_imul hx hb dX4_mostBy_16 ?_
    refine k_int (v := 4) (by decide +kernel) ?_
    refine lv_icmp_ge (tgt := 124) hx hb dX4_mostBy_17 (by decide) (fun q9 => absurd q9 (by decide +kernel)) (fun _ => ?_)
    refine lv_iload hx hb dX4_mostBy_20 (lv_at hl 0 rfl) ?_
    refine lv_aload_n hx hb dX4_mostBy_22 rfl (lv_at hl 5 rfl) ?_
    refine k_get (D := (dC, dI)) (ci := 4) (v := .ref (p0 1)) (C := RX4) (T := TX4) (N := 6) hx hb hts hinX4 hown hK hP 1 rfl rfl 0 (by decide) w_1 rfl rfl dX4_mostBy_23 ?_
    refine va_alen (v := 9216) hx hb hK hP 0 0 rfl rfl rfl dX4_mostBy_26 ?_
    refine lv_icmp_ge (tgt := 124) hx hb dX4_mostBy_27 (by decide) (fun q9 => absurd q9 (by decide +kernel)) (fun _ => ?_)
    refine lv_aload_n hx hb dX4_mostBy_30 rfl (lv_at hl 5 rfl) ?_
    refine k_get (D := (dC, dI)) (ci := 4) (v := .ref (p0 1)) (C := RX4) (T := TX4) (N := 6) hx hb hts hinX4 hown hK hP 1 rfl rfl 0 (by decide) w_1 rfl rfl dX4_mostBy_31 ?_
    refine lv_iload hx hb dX4_mostBy_34 (lv_at hl 0 rfl) ?_
    refine k_iald (v := 2147483647) hx hb hK hP 0 0 2 rfl rfl rfl (Nat.le_of_ble_eq_true rfl) (Nat.le_of_ble_eq_true rfl) rfl dX4_mostBy_36 ?_
    refine lv_ldc (v := 2147483647) hx hb hown w_2 dX4_mostBy_37 ?_
    refine lv_icmp_ne (tgt := 45) hx hb dX4_mostBy_39 (by decide) (fun q9 => absurd q9 (by decide +kernel)) (fun _ => ?_)
    refine lv_goto (tgt := 118) hx hb dX4_mostBy_42 (by decide) ?_
    refine lv_iinc (v := 3) (lv' := [(4, .int 3), (3, .int 0), (2, .int 0), (6, .int 0), (5, .int 0), (0, .ref (p0 0)), (1, .int 3)]) hx hb dX4_mostBy_118 hl (k := 0) rfl (by decide +kernel) (by decide) rfl (fun ls hl => ?_)
    refine lv_goto (tgt := 7) hx hb dX4_mostBy_121 (by decide) ?_
    refine lv_iload hx hb dX4_mostBy_7 (lv_at hl 0 rfl) ?_
    refine lv_iload_n hx hb dX4_mostBy_9 rfl (lv_at hl 6 rfl) ?_
    refine lv_iconst (v := 1) hx hb dX4_mostBy_10 (by decide +kernel) ?_
    refine lv_iadd hx hb dX4_mostBy_11 ?_
    refine k_int (v := 4) (by decide +kernel) ?_
    refine lv_aload_n hx hb dX4_mostBy_12 rfl (lv_at hl 5 rfl) ?_
    refine k_get (D := (dC, dI)) (ci := 4) (v := .int 1) (C := RX4) (T := TX4) (N := 6) hx hb hts hinX4 hown hK hP 1 rfl rfl 4 (by decide) w_0 rfl rfl dX4_mostBy_13 ?_
    refine lv_imul hx hb dX4_mostBy_16 ?_
    refine k_int (v := 4) (by decide +kernel) ?_
    refine lv_icmp_ge (tgt := 124) hx hb dX4_mostBy_17 (by decide) (fun q9 => absurd q9 (by decide +kernel)) (fun _ => ?_)
    refine lv_iload hx hb dX4_mostBy_20 (lv_at hl 0 rfl) ?_
    refine lv_aload_n hx hb dX4_mostBy_22 rfl (lv_at hl 5 rfl) ?_
    refine k_get (D := (dC, dI)) (ci := 4) (v := .ref (p0 1)) (C := RX4) (T := TX4) (N := 6) hx hb hts hinX4 hown hK hP 1 rfl rfl 0 (by decide) w_1 rfl rfl dX4_mostBy_23 ?_
    refine va_alen (v := 9216) hx hb hK hP 0 0 rfl rfl rfl dX4_mostBy_26 ?_
    refine lv_icmp_ge (tgt := 124) hx hb dX4_mostBy_27 (by decide) (fun q9 => absurd q9 (by decide +kernel)) (fun _ => ?_)
    refine lv_aload_n hx hb dX4_mostBy_30 rfl (lv_at hl 5 rfl) ?_
    refine k_get (D := (dC, dI)) (ci := 4) (v := .ref (p0 1)) (C := RX4) (T := TX4) (N := 6) hx hb hts hinX4 hown hK hP 1 rfl rfl 0 (by decide) w_1 rfl rfl dX4_mostBy_31 ?_
    refine lv_iload hx hb dX4_mostBy_34 (lv_at hl 0 rfl) ?_
    refine k_iald (v := 2147483647) hx hb hK hP 0 0 3 rfl rfl rfl (Nat.le_of_ble_eq_true rfl) (Nat.le_of_ble_eq_true rfl) rfl dX4_mostBy_36 ?_
    refine lv_ldc (v := 2147483647) hx hb hown w_2 dX4_mostBy_37 ?_
    refine lv_icmp_ne (tgt := 45) hx hb dX4_mostBy_39 (by decide) (fun q9 => absurd q9 (by decide +kernel)) (fun _ => ?_)
    refine lv_goto (tgt := 118) hx hb dX4_mostBy_42 (by decide) ?_
    refine lv_iinc (v := 4) (lv' := [(4, .int 4), (3, .int 0), (2, .int 0), (6, .int 0), (5, .int 0), (0, .ref (p0 0)), (1, .int 3)]) hx hb dX4_mostBy_118 hl (k := 0) rfl (by decide +kernel) (by decide) rfl (fun ls hl => ?_)
    refine lv_goto (tgt := 7) hx hb dX4_mostBy_121 (by decide) ?_
    refine lv_iload hx hb dX4_mostBy_7 (lv_at hl 0 rfl) ?_
    refine lv_iload_n hx hb dX4_mostBy_9 rfl (lv_at hl 6 rfl) ?_
    refine lv_iconst (v := 1) hx hb dX4_mostBy_10 (by decide +kernel) ?_
    refine lv_iadd hx hb dX4_mostBy_11 ?_
    refine k_int (v := 4) (by decide +kernel) ?_
    refine lv_aload_n hx hb dX4_mostBy_12 rfl (lv_at hl 5 rfl) ?_
    refine k_get (D := (dC, dI)) (ci := 4) (v := .int 1) (C := RX4) (T := TX4) (N := 6) hx hb hts hinX4 hown hK hP 1 rfl rfl 4 (by decide) w_0 rfl rfl dX4_mostBy_13 ?_
    refine lv_imul hx hb dX4_mostBy_16 ?_
    refine k_int (v := 4) (by decide +kernel) ?_
    refine lv_icmp_ge (tgt := 124) hx hb dX4_mostBy_17 (by decide) (fun _ => ?_) (fun q9 => absurd q9 (by decide +kernel))
    refine lv_iload_n hx hb dX4_mostBy_124 rfl (lv_at hl 2 rfl) ?_
    exact k_ri B hP hD hS dX4_mostBy_125 () [1, 0, 2] rfl rfl rfl (Nat.le_of_ble_eq_true rfl) (Nat.le_of_ble_eq_true rfl) rfl
  · obtain rfl : p1 = 4 := k_eqL (by decide +kernel) c_1
    refine lv_iconst (v := (-1)) hx hb dX4_mostBy_0 (by decide +kernel) ?_
    refine lv_istore_n (lv' := [(2, .int (-1)), (0, .ref (p0 0)), (1, .int 4)]) hx hb dX4_mostBy_1 rfl hl (by decide) rfl (fun ls hl => ?_)
    refine lv_iconst (v := (-1)) hx hb dX4_mostBy_2 (by decide +kernel) ?_
    refine lv_istore_n (lv' := [(3, .int (-1)), (2, .int (-1)), (0, .ref (p0 0)), (1, .int 4)]) hx hb dX4_mostBy_3 rfl hl (by decide) rfl (fun ls hl => ?_)
    refine lv_iconst (v := 0) hx hb dX4_mostBy_4 (by decide +kernel) ?_
    refine lv_istore (lv' := [(4, .int 0), (3, .int (-1)), (2, .int (-1)), (0, .ref (p0 0)), (1, .int 4)]) hx hb dX4_mostBy_5 hl (by decide) rfl (fun ls hl => ?_)
    refine lv_iload hx hb dX4_mostBy_7 (lv_at hl 0 rfl) ?_
    refine lv_iload_n hx hb dX4_mostBy_9 rfl (lv_at hl 4 rfl) ?_
    refine lv_iconst (v := 1) hx hb dX4_mostBy_10 (by decide +kernel) ?_
    refine lv_iadd hx hb dX4_mostBy_11 ?_
    refine k_int (v := 5) (by decide +kernel) ?_
    refine lv_aload_n hx hb dX4_mostBy_12 rfl (lv_at hl 3 rfl) ?_
    refine k_get (D := (dC, dI)) (ci := 4) (v := .int 1) (C := RX4) (T := TX4) (N := 6) hx hb hts hinX4 hown hK hP 0 rfl rfl 4 (by decide) w_0 rfl rfl dX4_mostBy_13 ?_
    refine lv_imul hx hb dX4_mostBy_16 ?_
    refine k_int (v := 5) (by decide +kernel) ?_
    refine lv_icmp_ge (tgt := 124) hx hb dX4_mostBy_17 (by decide) (fun q9 => absurd q9 (by decide +kernel)) (fun _ => ?_)
    refine lv_iload hx hb dX4_mostBy_20 (lv_at hl 0 rfl) ?_
    refine lv_aload_n hx hb dX4_mostBy_22 rfl (lv_at hl 3 rfl) ?_
    refine k_get (D := (dC, dI)) (ci := 4) (v := .ref (p0 1)) (C := RX4) (T := TX4) (N := 6) hx hb hts hinX4 hown hK hP 0 rfl rfl 0 (by decide) w_1 rfl rfl dX4_mostBy_23 ?_
    refine va_alen (v := 9216) hx hb hK hP 1 0 rfl rfl rfl dX4_mostBy_26 ?_
    refine lv_icmp_ge (tgt := 124) hx hb dX4_mostBy_27 (by decide) (fun q9 => absurd q9 (by decide +kernel)) (fun _ => ?_)
    refine lv_aload_n hx hb dX4_mostBy_30 rfl (lv_at hl 3 rfl) ?_
    refine k_get (D := (dC, dI)) (ci := 4) (v := .ref (p0 1)) (C := RX4) (T := TX4) (N := 6) hx hb hts hinX4 hown hK hP 0 rfl rfl 0 (by decide) w_1 rfl rfl dX4_mostBy_31 ?_
    refine lv_iload hx hb dX4_mostBy_34 (lv_at hl 0 rfl) ?_
    refine k_iald (v := 0) hx hb hK hP 1 0 0 rfl rfl rfl (Nat.le_of_ble_eq_true rfl) (Nat.le_of_ble_eq_true rfl) rfl dX4_mostBy_36 ?_
    refine lv_ldc (v := 2147483647) hx hb hown w_2 dX4_mostBy_37 ?_
    refine lv_icmp_ne (tgt := 45) hx hb dX4_mostBy_39 (by decide) (fun _ => ?_) (fun q9 => absurd q9 (by decide +kernel))
    refine lv_aload_n hx hb dX4_mostBy_45 rfl (lv_at hl 3 rfl) ?_
    refine k_get (D := (dC, dI)) (ci := 4) (v := .ref (p2 1)) (C := RX4) (T := TX4) (N := 6) hx hb hts hinX4 hown hK hP 0 rfl rfl 3 (by decide) w_3 rfl rfl dX4_mostBy_46 ?_
    refine lv_aload_n hx hb dX4_mostBy_49 rfl (lv_at hl 3 rfl) ?_
    refine lv_iload hx hb dX4_mostBy_50 (lv_at hl 0 rfl) ?_
    refine k_ci (wc := [((p0 0), .inr (4, [.ref (p0 1), .ref (p0 2), .ref (p0 3), .ref (p2 1), .int 1, .int 1]))]) (wr := [((p0 1), .inl (cI, 9216, .inl (upd (fun k => if 0 ≤ k ∧ k < 9 then 2147483647 else 0) 0 0))), ((p2 1), .inr (5, [.ref (p2 2), .ref (p2 3), .ref (p2 4), .ref (p2 5), .ref (p2 6), .ref (p2 7), .ref (p2 8), .ref (p2 9), .ref (p2 10), .ref (p2 11), .ref (p2 12), .ref (p2 13), .int 0, .int 0, .int 0, .int 0, .int 0, .int 100, .int 0, .int 0]))]) (fun hPc hDc hFc => va_runV (As := [.int 0]) (rest := [.ref (p2 1)]) ⟨hx, hb, hml, hown, hts⟩ (c_X4_setOf_v0 l dC dI cI cJ cZ cM p0 p2 H.size) (cwV 1 hts gX4_mostBy_X4_setOf rfl rfl rfl (by decide +kernel) ⟨(Nat.le_of_ble_eq_true rfl), (Nat.le_of_ble_eq_true rfl)⟩) (k_pV hPc hDc hK hN hC hS hFc hP (q0 := 0) (ci := 4) rfl rfl) rfl rfl hl.1 rfl (lv_room (Nat.le_of_ble_eq_true rfl)) dX4_mostBy_52 ⟨(Nat.le_of_ble_eq_true rfl), (Nat.le_of_ble_eq_true rfl)⟩) hP hD hS hA [0] [1, 2] rfl rfl rfl rfl (by decide) (fun _ => rfl) 0 0 rfl rfl (fun r_18 u_19 H locs hw hP hD hS => ?_)
    obtain rfl : r_18 = 0 := hw
    have hP : va_P (dC, dI) vwCl [((p0 1), .inl (cI, 9216, .inl (upd (fun k => if 0 ≤ k ∧ k < 9 then 2147483647 else 0) 0 0))), ((p2 1), .inr (5, [.ref (p2 2), .ref (p2 3), .ref (p2 4), .ref (p2 5), .ref (p2 6), .ref (p2 7), .ref (p2 8), .ref (p2 9), .ref (p2 10), .ref (p2 11), .ref (p2 12), .ref (p2 13), .int 0, .int 0, .int 0, .int 0, .int 0, .int 100, .int 0, .int 0])), ((p0 0), .inr (4, [.ref (p0 1), .ref (p0 2), .ref (p0 3), .ref (p2 1), .int 1, .int 1]))] H := hP
    have hD : va_D A [((p0 1), .inl (cI, 9216, .inl (upd (fun k => if 0 ≤ k ∧ k < 9 then 2147483647 else 0) 0 0))), ((p2 1), .inr (5, [.ref (p2 2), .ref (p2 3), .ref (p2 4), .ref (p2 5), .ref (p2 6), .ref (p2 7), .ref (p2 8), .ref (p2 9), .ref (p2 10), .ref (p2 11), .ref (p2 12), .ref (p2 13), .int 0, .int 0, .int 0, .int 0, .int 0, .int 100, .int 0, .int 0])), ((p0 0), .inr (4, [.ref (p0 1), .ref (p0 2), .ref (p0 3), .ref (p2 1), .int 1, .int 1]))] := hD
    refine k_ci (wc := [((p2 1), .inr (5, [.ref (p2 2), .ref (p2 3), .ref (p2 4), .ref (p2 5), .ref (p2 6), .ref (p2 7), .ref (p2 8), .ref (p2 9), .ref (p2 10), .ref (p2 11), .ref (p2 12), .ref (p2 13), .int 0, .int 0, .int 0, .int 0, .int 0, .int 100, .int 0, .int 0]))]) (wr := [((p0 1), .inl (cI, 9216, .inl (upd (fun k => if 0 ≤ k ∧ k < 9 then 2147483647 else 0) 0 0))), ((p0 0), .inr (4, [.ref (p0 1), .ref (p0 2), .ref (p0 3), .ref (p2 1), .int 1, .int 1]))]) (fun hPc hDc hFc => va_runV (As := [.int 0]) (rest := []) ⟨hx, hb, hml, hown, hts⟩ (c_X5_lastingWorthOf_v0 l dC dI cI cJ cZ cM p2 H.size) (cwV 1 hts gX4_mostBy_X5_lastingWorthOf rfl rfl rfl (by decide +kernel) ⟨(Nat.le_of_ble_eq_true rfl), (Nat.le_of_ble_eq_true rfl)⟩) (k_pV hPc hDc hK hN hC hS hFc hP (q0 := 1) (ci := 5) rfl rfl) rfl rfl hl.1 rfl (lv_room (Nat.le_of_ble_eq_true rfl)) dX4_mostBy_55 ⟨(Nat.le_of_ble_eq_true rfl), (Nat.le_of_ble_eq_true rfl)⟩) hP hD hS hA [1] [0, 2] rfl rfl rfl rfl (by decide) (fun _ => rfl) 0 0 rfl rfl (fun r_20 u_21 H locs hw hP hD hS => ?_)
    obtain rfl : r_20 = 0 := hw
    have hP : va_P (dC, dI) vwCl [((p0 1), .inl (cI, 9216, .inl (upd (fun k => if 0 ≤ k ∧ k < 9 then 2147483647 else 0) 0 0))), ((p0 0), .inr (4, [.ref (p0 1), .ref (p0 2), .ref (p0 3), .ref (p2 1), .int 1, .int 1])), ((p2 1), .inr (5, [.ref (p2 2), .ref (p2 3), .ref (p2 4), .ref (p2 5), .ref (p2 6), .ref (p2 7), .ref (p2 8), .ref (p2 9), .ref (p2 10), .ref (p2 11), .ref (p2 12), .ref (p2 13), .int 0, .int 0, .int 0, .int 0, .int 0, .int 100, .int 0, .int 0]))] H := hP
    have hD : va_D A [((p0 1), .inl (cI, 9216, .inl (upd (fun k => if 0 ≤ k ∧ k < 9 then 2147483647 else 0) 0 0))), ((p0 0), .inr (4, [.ref (p0 1), .ref (p0 2), .ref (p0 3), .ref (p2 1), .int 1, .int 1])), ((p2 1), .inr (5, [.ref (p2 2), .ref (p2 3), .ref (p2 4), .ref (p2 5), .ref (p2 6), .ref (p2 7), .ref (p2 8), .ref (p2 9), .ref (p2 10), .ref (p2 11), .ref (p2 12), .ref (p2 13), .int 0, .int 0, .int 0, .int 0, .int 0, .int 100, .int 0, .int 0]))] := hD
    refine lv_istore (lv' := [(5, .int 0), (4, .int 0), (3, .int (-1)), (2, .int (-1)), (0, .ref (p0 0)), (1, .int 4)]) hx hb dX4_mostBy_58 hl (by decide) rfl (fun ls hl => ?_)
    refine lv_iload hx hb dX4_mostBy_60 (lv_at hl 0 rfl) ?_
    refine lv_iload_n hx hb dX4_mostBy_62 rfl (lv_at hl 2 rfl) ?_
    refine lv_icmp_ne (tgt := 84) hx hb dX4_mostBy_63 (by decide) (fun _ => ?_) (fun q9 => absurd q9 (by decide +kernel))
    refine lv_iconst (v := 0) hx hb dX4_mostBy_84 (by decide +kernel) ?_
    refine lv_istore (lv' := [(6, .int 0), (5, .int 0), (4, .int 0), (3, .int (-1)), (2, .int (-1)), (0, .ref (p0 0)), (1, .int 4)]) hx hb dX4_mostBy_85 hl (by decide) rfl (fun ls hl => ?_)
    refine lv_iload hx hb dX4_mostBy_87 (lv_at hl 1 rfl) ?_
    refine lv_iload_n hx hb dX4_mostBy_89 rfl (lv_at hl 3 rfl) ?_
    refine lv_icmp_gt (tgt := 112) hx hb dX4_mostBy_90 (by decide) (fun _ => ?_) (fun q9 => absurd q9 (by decide +kernel))
    refine lv_iload hx hb dX4_mostBy_112 (lv_at hl 2 rfl) ?_
    refine lv_istore_n (lv' := [(2, .int 0), (6, .int 0), (5, .int 0), (4, .int 0), (3, .int (-1)), (0, .ref (p0 0)), (1, .int 4)]) hx hb dX4_mostBy_114 rfl hl (by decide) rfl (fun ls hl => ?_)
    refine lv_iload hx hb dX4_mostBy_115 (lv_at hl 2 rfl) ?_
    refine lv_istore_n (lv' := [(3, .int 0), (2, .int 0), (6, .int 0), (5, .int 0), (4, .int 0), (0, .ref (p0 0)), (1, .int 4)]) hx hb dX4_mostBy_117 rfl hl (by decide) rfl (fun ls hl => ?_)
    refine lv_iinc (v := 1) (lv' := [(4, .int 1), (3, .int 0), (2, .int 0), (6, .int 0), (5, .int 0), (0, .ref (p0 0)), (1, .int 4)]) hx hb dX4_mostBy_118 hl (k := 4) rfl (by decide +kernel) (by decide) rfl (fun ls hl => ?_)
    refine lv_goto (tgt := 7) hx hb dX4_mostBy_121 (by decide) ?_
    refine lv_iload hx hb dX4_mostBy_7 (lv_at hl 0 rfl) ?_
    refine lv_iload_n hx hb dX4_mostBy_9 rfl (lv_at hl 6 rfl) ?_
    refine lv_iconst (v := 1) hx hb dX4_mostBy_10 (by decide +kernel) ?_
    refine lv_iadd hx hb dX4_mostBy_11 ?_
    refine k_int (v := 5) (by decide +kernel) ?_
    refine lv_aload_n hx hb dX4_mostBy_12 rfl (lv_at hl 5 rfl) ?_
    refine k_get (D := (dC, dI)) (ci := 4) (v := .int 1) (C := RX4) (T := TX4) (N := 6) hx hb hts hinX4 hown hK hP 1 rfl rfl 4 (by decide) w_0 rfl rfl dX4_mostBy_13 ?_
    refine lv_imul hx hb dX4_mostBy_16 ?_
    refine k_int (v := 5) (by decide +kernel) ?_
    refine lv_icmp_ge (tgt := 124) hx hb dX4_mostBy_17 (by decide) (fun q9 => absurd q9 (by decide +kernel)) (fun _ => ?_)
    refine lv_iload hx hb dX4_mostBy_20 (lv_at hl 0 rfl) ?_
    refine lv_aload_n hx hb dX4_mostBy_22 rfl (lv_at hl 5 rfl) ?_
    refine k_get (D := (dC, dI)) (ci := 4) (v := .ref (p0 1)) (C := RX4) (T := TX4) (N := 6) hx hb hts hinX4 hown hK hP 1 rfl rfl 0 (by decide) w_1 rfl rfl dX4_mostBy_23 ?_
    refine va_alen (v := 9216) hx hb hK hP 0 0 rfl rfl rfl dX4_mostBy_26 ?_
    refine lv_icmp_ge (tgt := 124) hx hb dX4_mostBy_27 (by decide) (fun q9 => absurd q9 (by decide +kernel)) (fun _ => ?_)
    refine lv_aload_n hx hb dX4_mostBy_30 rfl (lv_at hl 5 rfl) ?_
    refine k_get (D := (dC, dI)) (ci := 4) (v := .ref (p0 1)) (C := RX4) (T := TX4) (N := 6) hx hb hts hinX4 hown hK hP 1 rfl rfl 0 (by decide) w_1 rfl rfl dX4_mostBy_31 ?_
    refine lv_iload hx hb dX4_mostBy_34 (lv_at hl 0 rfl) ?_
    refine k_iald (v := 2147483647) hx hb hK hP 0 0 1 rfl rfl rfl (Nat.le_of_ble_eq_true rfl) (Nat.le_of_ble_eq_true rfl) rfl dX4_mostBy_36 ?_
    refine lv_ldc (v := 2147483647) hx hb hown w_2 dX4_mostBy_37 ?_
    refine lv_icmp_ne (tgt := 45) hx hb dX4_mostBy_39 (by decide) (fun q9 => absurd q9 (by decide +kernel)) (fun _ => ?_)
    refine lv_goto (tgt := 118) hx hb dX4_mostBy_42 (by decide) ?_
    refine lv_iinc (v := 2) (lv' := [(4, .int 2), (3, .int 0), (2, .int 0), (6, .int 0), (5, .int 0), (0, .ref (p0 0)), (1, .int 4)]) hx hb dX4_mostBy_118 hl (k := 0) rfl (by decide +kernel) (by decide) rfl (fun ls hl => ?_)
    refine lv_goto (tgt := 7) hx hb dX4_mostBy_121 (by decide) ?_
    refine lv_iload hx hb dX4_mostBy_7 (lv_at hl 0 rfl) ?_
    refine lv_iload_n hx hb dX4_mostBy_9 rfl (lv_at hl 6 rfl) ?_
    refine lv_iconst (v := 1) hx hb dX4_mostBy_10 (by decide +kernel) ?_
    refine lv_iadd hx hb dX4_mostBy_11 ?_
    refine k_int (v := 5) (by decide +kernel) ?_
    refine lv_aload_n hx hb dX4_mostBy_12 rfl (lv_at hl 5 rfl) ?_
    refine k_get (D := (dC, dI)) (ci := 4) (v := .int 1) (C := RX4) (T := TX4) (N := 6) hx hb hts hinX4 hown hK hP 1 rfl rfl 4 (by decide) w_0 rfl rfl dX4_mostBy_13 ?_
    refine lv_imul hx hb dX4_mostBy_16 ?_
    refine k_int (v := 5) (by decide +kernel) ?_
    refine lv_icmp_ge (tgt := 124) hx hb dX4_mostBy_17 (by decide) (fun q9 => absurd q9 (by decide +kernel)) (fun _ => ?_)
    refine lv_iload hx hb dX4_mostBy_20 (lv_at hl 0 rfl) ?_
    refine lv_aload_n hx hb dX4_mostBy_22 rfl (lv_at hl 5 rfl) ?_
    refine k_get (D := (dC, dI)) (ci := 4) (v := .ref (p0 1)) (C := RX4) (T := TX4) (N := 6) hx hb hts hinX4 hown hK hP 1 rfl rfl 0 (by decide) w_1 rfl rfl dX4_mostBy_23 ?_
    refine va_alen (v := 9216) hx hb hK hP 0 0 rfl rfl rfl dX4_mostBy_26 ?_
    refine lv_icmp_ge (tgt := 124) hx hb dX4_mostBy_27 (by decide) (fun q9 => absurd q9 (by decide +kernel)) (fun _ => ?_)
    refine lv_aload_n hx hb dX4_mostBy_30 rfl (lv_at hl 5 rfl) ?_
    refine k_get (D := (dC, dI)) (ci := 4) (v := .ref (p0 1)) (C := RX4) (T := TX4) (N := 6) hx hb hts hinX4 hown hK hP 1 rfl rfl 0 (by decide) w_1 rfl rfl dX4_mostBy_31 ?_
    refine lv_iload hx hb dX4_mostBy_34 (lv_at hl 0 rfl) ?_
    refine k_iald (v := 2147483647) hx hb hK hP 0 0 2 rfl rfl rfl (Nat.le_of_ble_eq_true rfl) (Nat.le_of_ble_eq_true rfl) rfl dX4_mostBy_36 ?_
    refine lv_ldc (v := 2147483647) hx hb hown w_2 dX4_mostBy_37 ?_
    refine lv_icmp_ne (tgt := 45) hx hb dX4_mostBy_39 (by decide) (fun q9 => absurd q9 (by decide +kernel)) (fun _ => ?_)
    refine lv_goto (tgt := 118) hx hb dX4_mostBy_42 (by decide) ?_
    refine lv_iinc (v := 3) (lv' := [(4, .int 3), (3, .int 0), (2, .int 0), (6, .int 0), (5, .int 0), (0, .ref (p0 0)), (1, .int 4)]) hx hb dX4_mostBy_118 hl (k := 0) rfl (by decide +kernel) (by decide) rfl (fun ls hl => ?_)
    refine lv_goto (tgt := 7) hx hb dX4_mostBy_121 (by decide) ?_
    refine lv_iload hx hb dX4_mostBy_7 (lv_at hl 0 rfl) ?_
    refine lv_iload_n hx hb dX4_mostBy_9 rfl (lv_at hl 6 rfl) ?_
    refine lv_iconst (v := 1) hx hb dX4_mostBy_10 (by decide +kernel) ?_
    refine lv_iadd hx hb dX4_mostBy_11 ?_
    refine k_int (v := 5) (by decide +kernel) ?_
    refine lv_aload_n hx hb dX4_mostBy_12 rfl (lv_at hl 5 rfl) ?_
    refine k_get (D := (dC, dI)) (ci := 4) (v := .int 1) (C := RX4) (T := TX4) (N := 6) hx hb hts hinX4 hown hK hP 1 rfl rfl 4 (by decide) w_0 rfl rfl dX4_mostBy_13 ?_
    refine lv_imul hx hb dX4_mostBy_16 ?_
    refine k_int (v := 5) (by decide +kernel) ?_
    refine lv_icmp_ge (tgt := 124) hx hb dX4_mostBy_17 (by decide) (fun q9 => absurd q9 (by decide +kernel)) (fun _ => ?_)
    refine lv_iload hx hb dX4_mostBy_20 (lv_at hl 0 rfl) ?_
    refine lv_aload_n hx hb dX4_mostBy_22 rfl (lv_at hl 5 rfl) ?_
    refine k_get (D := (dC, dI)) (ci := 4) (v := .ref (p0 1)) (C := RX4) (T := TX4) (N := 6) hx hb hts hinX4 hown hK hP 1 rfl rfl 0 (by decide) w_1 rfl rfl dX4_mostBy_23 ?_
    refine va_alen (v := 9216) hx hb hK hP 0 0 rfl rfl rfl dX4_mostBy_26 ?_
    refine lv_icmp_ge (tgt := 124) hx hb dX4_mostBy_27 (by decide) (fun q9 => absurd q9 (by decide +kernel)) (fun _ => ?_)
    refine lv_aload_n hx hb dX4_mostBy_30 rfl (lv_at hl 5 rfl) ?_
    refine k_get (D := (dC, dI)) (ci := 4) (v := .ref (p0 1)) (C := RX4) (T := TX4) (N := 6) hx hb hts hinX4 hown hK hP 1 rfl rfl 0 (by decide) w_1 rfl rfl dX4_mostBy_31 ?_
    refine lv_iload hx hb dX4_mostBy_34 (lv_at hl 0 rfl) ?_
    refine k_iald (v := 2147483647) hx hb hK hP 0 0 3 rfl rfl rfl (Nat.le_of_ble_eq_true rfl) (Nat.le_of_ble_eq_true rfl) rfl dX4_mostBy_36 ?_
    refine lv_ldc (v := 2147483647) hx hb hown w_2 dX4_mostBy_37 ?_
    refine lv_icmp_ne (tgt := 45) hx hb dX4_mostBy_39 (by decide) (fun q9 => absurd q9 (by decide +kernel)) (fun _ => ?_)
    refine lv_goto (tgt := 118) hx hb dX4_mostBy_42 (by decide) ?_
    refine lv_iinc (v := 4) (lv' := [(4, .int 4), (3, .int 0), (2, .int 0), (6, .int 0), (5, .int 0), (0, .ref (p0 0)), (1, .int 4)]) hx hb dX4_mostBy_118 hl (k := 0) rfl (by decide +kernel) (by decide) rfl (fun ls hl => ?_)
    refine lv_goto (tgt := 7) hx hb dX4_mostBy_121 (by decide) ?_
    refine lv_iload hx hb dX4_mostBy_7 (lv_at hl 0 rfl) ?_
    refine lv_iload_n hx hb dX4_mostBy_9 rfl (lv_at hl 6 rfl) ?_
    refine lv_iconst (v := 1) hx hb dX4_mostBy_10 (by decide +kernel) ?_
    refine lv_iadd hx hb dX4_mostBy_11 ?_
    refine k_int (v := 5) (by decide +kernel) ?_
    refine lv_aload_n hx hb dX4_mostBy_12 rfl (lv_at hl 5 rfl) ?_
    refine k_get (D := (dC, dI)) (ci := 4) (v := .int 1) (C := RX4) (T := TX4) (N := 6) hx hb hts hinX4 hown hK hP 1 rfl rfl 4 (by decide) w_0 rfl rfl dX4_mostBy_13 ?_
    refine lv_imul hx hb dX4_mostBy_16 ?_
    refine k_int (v := 5) (by decide +kernel) ?_
    refine lv_icmp_ge (tgt := 124) hx hb dX4_mostBy_17 (by decide) (fun q9 => absurd q9 (by decide +kernel)) (fun _ => ?_)
    refine lv_iload hx hb dX4_mostBy_20 (lv_at hl 0 rfl) ?_
    refine lv_aload_n hx hb dX4_mostBy_22 rfl (lv_at hl 5 rfl) ?_
    refine k_get (D := (dC, dI)) (ci := 4) (v := .ref (p0 1)) (C := RX4) (T := TX4) (N := 6) hx hb hts hinX4 hown hK hP 1 rfl rfl 0 (by decide) w_1 rfl rfl dX4_mostBy_23 ?_
    refine va_alen (v := 9216) hx hb hK hP 0 0 rfl rfl rfl dX4_mostBy_26 ?_
    refine lv_icmp_ge (tgt := 124) hx hb dX4_mostBy_27 (by decide) (fun q9 => absurd q9 (by decide +kernel)) (fun _ => ?_)
    refine lv_aload_n hx hb dX4_mostBy_30 rfl (lv_at hl 5 rfl) ?_
    refine k_get (D := (dC, dI)) (ci := 4) (v := .ref (p0 1)) (C := RX4) (T := TX4) (N := 6) hx hb hts hinX4 hown hK hP 1 rfl rfl 0 (by decide) w_1 rfl rfl dX4_mostBy_31 ?_
    refine lv_iload hx hb dX4_mostBy_34 (lv_at hl 0 rfl) ?_
    refine k_iald (v := 2147483647) hx hb hK hP 0 0 4 rfl rfl rfl (Nat.le_of_ble_eq_true rfl) (Nat.le_of_ble_eq_true rfl) rfl dX4_mostBy_36 ?_
    refine lv_ldc (v := 2147483647) hx hb hown w_2 dX4_mostBy_37 ?_
    refine lv_icmp_ne (tgt := 45) hx hb dX4_mostBy_39 (by decide) (fun q9 => absurd q9 (by decide +kernel)) (fun _ => ?_)
    refine lv_goto (tgt := 118) hx hb dX4_mostBy_42 (by decide) ?_
    refine lv_iinc (v := 5) (lv' := [(4, .int 5), (3, .int 0), (2, .int 0), (6, .int 0), (5, .int 0), (0, .ref (p0 0)), (1, .int 4)]) hx hb dX4_mostBy_118 hl (k := 0) rfl (by decide +kernel) (by decide) rfl (fun ls hl => ?_)
    refine lv_goto (tgt := 7) hx hb dX4_mostBy_121 (by decide) ?_
    refine lv_iload hx hb dX4_mostBy_7 (lv_at hl 0 rfl) ?_
    refine lv_iload_n hx hb dX4_mostBy_9 rfl (lv_at hl 6 rfl) ?_
    refine lv_iconst (v := 1) hx hb dX4_mostBy_10 (by decide +kernel) ?_
    refine lv_iadd hx hb dX4_mostBy_11 ?_
    refine k_int (v := 5) (by decide +kernel) ?_
    refine lv_aload_n hx hb dX4_mostBy_12 rfl (lv_at hl 5 rfl) ?_
    refine k_get (D := (dC, dI)) (ci := 4) (v := .int 1) (C := RX4) (T := TX4) (N := 6) hx hb hts hinX4 hown hK hP 1 rfl rfl 4 (by decide) w_0 rfl rfl dX4_mostBy_13 ?_
    refine lv_imul hx hb dX4_mostBy_16 ?_
    refine k_int (v := 5) (by decide +kernel) ?_
    refine lv_icmp_ge (tgt := 124) hx hb dX4_mostBy_17 (by decide) (fun _ => ?_) (fun q9 => absurd q9 (by decide +kernel))
    refine lv_iload_n hx hb dX4_mostBy_124 rfl (lv_at hl 2 rfl) ?_
    exact k_ri B hP hD hS dX4_mostBy_125 () [1, 0, 2] rfl rfl rfl (Nat.le_of_ble_eq_true rfl) (Nat.le_of_ble_eq_true rfl) rfl
  · obtain rfl : p1 = 5 := k_eqL (by decide +kernel) c_1
    refine lv_iconst (v := (-1)) hx hb dX4_mostBy_0 (by decide +kernel) ?_
    refine lv_istore_n (lv' := [(2, .int (-1)), (0, .ref (p0 0)), (1, .int 5)]) hx hb dX4_mostBy_1 rfl hl (by decide) rfl (fun ls hl => ?_)
    refine lv_iconst (v := (-1)) hx hb dX4_mostBy_2 (by decide +kernel) ?_
    refine lv_istore_n (lv' := [(3, .int (-1)), (2, .int (-1)), (0, .ref (p0 0)), (1, .int 5)]) hx hb dX4_mostBy_3 rfl hl (by decide) rfl (fun ls hl => ?_)
    refine lv_iconst (v := 0) hx hb dX4_mostBy_4 (by decide +kernel) ?_
    refine lv_istore (lv' := [(4, .int 0), (3, .int (-1)), (2, .int (-1)), (0, .ref (p0 0)), (1, .int 5)]) hx hb dX4_mostBy_5 hl (by decide) rfl (fun ls hl => ?_)
    refine lv_iload hx hb dX4_mostBy_7 (lv_at hl 0 rfl) ?_
    refine lv_iload_n hx hb dX4_mostBy_9 rfl (lv_at hl 4 rfl) ?_
    refine lv_iconst (v := 1) hx hb dX4_mostBy_10 (by decide +kernel) ?_
    refine lv_iadd hx hb dX4_mostBy_11 ?_
    refine k_int (v := 6) (by decide +kernel) ?_
    refine lv_aload_n hx hb dX4_mostBy_12 rfl (lv_at hl 3 rfl) ?_
    refine k_get (D := (dC, dI)) (ci := 4) (v := .int 1) (C := RX4) (T := TX4) (N := 6) hx hb hts hinX4 hown hK hP 0 rfl rfl 4 (by decide) w_0 rfl rfl dX4_mostBy_13 ?_
    refine lv_imul hx hb dX4_mostBy_16 ?_
    refine k_int (v := 6) (by decide +kernel) ?_
    refine lv_icmp_ge (tgt := 124) hx hb dX4_mostBy_17 (by decide) (fun q9 => absurd q9 (by decide +kernel)) (fun _ => ?_)
    refine lv_iload hx hb dX4_mostBy_20 (lv_at hl 0 rfl) ?_
    refine lv_aload_n hx hb dX4_mostBy_22 rfl (lv_at hl 3 rfl) ?_
    refine k_get (D := (dC, dI)) (ci := 4) (v := .ref (p0 1)) (C := RX4) (T := TX4) (N := 6) hx hb hts hinX4 hown hK hP 0 rfl rfl 0 (by decide) w_1 rfl rfl dX4_mostBy_23 ?_
    refine va_alen (v := 9216) hx hb hK hP 1 0 rfl rfl rfl dX4_mostBy_26 ?_
    refine lv_icmp_ge (tgt := 124) hx hb dX4_mostBy_27 (by decide) (fun q9 => absurd q9 (by decide +kernel)) (fun _ => ?_)
    refine lv_aload_n hx hb dX4_mostBy_30 rfl (lv_at hl 3 rfl) ?_
    refine k_get (D := (dC, dI)) (ci := 4) (v := .ref (p0 1)) (C := RX4) (T := TX4) (N := 6) hx hb hts hinX4 hown hK hP 0 rfl rfl 0 (by decide) w_1 rfl rfl dX4_mostBy_31 ?_
    refine lv_iload hx hb dX4_mostBy_34 (lv_at hl 0 rfl) ?_
    refine k_iald (v := 0) hx hb hK hP 1 0 0 rfl rfl rfl (Nat.le_of_ble_eq_true rfl) (Nat.le_of_ble_eq_true rfl) rfl dX4_mostBy_36 ?_
    refine lv_ldc (v := 2147483647) hx hb hown w_2 dX4_mostBy_37 ?_
    refine lv_icmp_ne (tgt := 45) hx hb dX4_mostBy_39 (by decide) (fun _ => ?_) (fun q9 => absurd q9 (by decide +kernel))
    refine lv_aload_n hx hb dX4_mostBy_45 rfl (lv_at hl 3 rfl) ?_
    refine k_get (D := (dC, dI)) (ci := 4) (v := .ref (p2 1)) (C := RX4) (T := TX4) (N := 6) hx hb hts hinX4 hown hK hP 0 rfl rfl 3 (by decide) w_3 rfl rfl dX4_mostBy_46 ?_
    refine lv_aload_n hx hb dX4_mostBy_49 rfl (lv_at hl 3 rfl) ?_
    refine lv_iload hx hb dX4_mostBy_50 (lv_at hl 0 rfl) ?_
    refine k_ci (wc := [((p0 0), .inr (4, [.ref (p0 1), .ref (p0 2), .ref (p0 3), .ref (p2 1), .int 1, .int 1]))]) (wr := [((p0 1), .inl (cI, 9216, .inl (upd (fun k => if 0 ≤ k ∧ k < 9 then 2147483647 else 0) 0 0))), ((p2 1), .inr (5, [.ref (p2 2), .ref (p2 3), .ref (p2 4), .ref (p2 5), .ref (p2 6), .ref (p2 7), .ref (p2 8), .ref (p2 9), .ref (p2 10), .ref (p2 11), .ref (p2 12), .ref (p2 13), .int 0, .int 0, .int 0, .int 0, .int 0, .int 100, .int 0, .int 0]))]) (fun hPc hDc hFc => va_runV (As := [.int 0]) (rest := [.ref (p2 1)]) ⟨hx, hb, hml, hown, hts⟩ (c_X4_setOf_v0 l dC dI cI cJ cZ cM p0 p2 H.size) (cwV 1 hts gX4_mostBy_X4_setOf rfl rfl rfl (by decide +kernel) ⟨(Nat.le_of_ble_eq_true rfl), (Nat.le_of_ble_eq_true rfl)⟩) (k_pV hPc hDc hK hN hC hS hFc hP (q0 := 0) (ci := 4) rfl rfl) rfl rfl hl.1 rfl (lv_room (Nat.le_of_ble_eq_true rfl)) dX4_mostBy_52 ⟨(Nat.le_of_ble_eq_true rfl), (Nat.le_of_ble_eq_true rfl)⟩) hP hD hS hA [0] [1, 2] rfl rfl rfl rfl (by decide) (fun _ => rfl) 0 0 rfl rfl (fun r_22 u_23 H locs hw hP hD hS => ?_)
    obtain rfl : r_22 = 0 := hw
    have hP : va_P (dC, dI) vwCl [((p0 1), .inl (cI, 9216, .inl (upd (fun k => if 0 ≤ k ∧ k < 9 then 2147483647 else 0) 0 0))), ((p2 1), .inr (5, [.ref (p2 2), .ref (p2 3), .ref (p2 4), .ref (p2 5), .ref (p2 6), .ref (p2 7), .ref (p2 8), .ref (p2 9), .ref (p2 10), .ref (p2 11), .ref (p2 12), .ref (p2 13), .int 0, .int 0, .int 0, .int 0, .int 0, .int 100, .int 0, .int 0])), ((p0 0), .inr (4, [.ref (p0 1), .ref (p0 2), .ref (p0 3), .ref (p2 1), .int 1, .int 1]))] H := hP
    have hD : va_D A [((p0 1), .inl (cI, 9216, .inl (upd (fun k => if 0 ≤ k ∧ k < 9 then 2147483647 else 0) 0 0))), ((p2 1), .inr (5, [.ref (p2 2), .ref (p2 3), .ref (p2 4), .ref (p2 5), .ref (p2 6), .ref (p2 7), .ref (p2 8), .ref (p2 9), .ref (p2 10), .ref (p2 11), .ref (p2 12), .ref (p2 13), .int 0, .int 0, .int 0, .int 0, .int 0, .int 100, .int 0, .int 0])), ((p0 0), .inr (4, [.ref (p0 1), .ref (p0 2), .ref (p0 3), .ref (p2 1), .int 1, .int 1]))] := hD
    refine k_ci (wc := [((p2 1), .inr (5, [.ref (p2 2), .ref (p2 3), .ref (p2 4), .ref (p2 5), .ref (p2 6), .ref (p2 7), .ref (p2 8), .ref (p2 9), .ref (p2 10), .ref (p2 11), .ref (p2 12), .ref (p2 13), .int 0, .int 0, .int 0, .int 0, .int 0, .int 100, .int 0, .int 0]))]) (wr := [((p0 1), .inl (cI, 9216, .inl (upd (fun k => if 0 ≤ k ∧ k < 9 then 2147483647 else 0) 0 0))), ((p0 0), .inr (4, [.ref (p0 1), .ref (p0 2), .ref (p0 3), .ref (p2 1), .int 1, .int 1]))]) (fun hPc hDc hFc => va_runV (As := [.int 0]) (rest := []) ⟨hx, hb, hml, hown, hts⟩ (c_X5_lastingWorthOf_v0 l dC dI cI cJ cZ cM p2 H.size) (cwV 1 hts gX4_mostBy_X5_lastingWorthOf rfl rfl rfl (by decide +kernel) ⟨(Nat.le_of_ble_eq_true rfl), (Nat.le_of_ble_eq_true rfl)⟩) (k_pV hPc hDc hK hN hC hS hFc hP (q0 := 1) (ci := 5) rfl rfl) rfl rfl hl.1 rfl (lv_room (Nat.le_of_ble_eq_true rfl)) dX4_mostBy_55 ⟨(Nat.le_of_ble_eq_true rfl), (Nat.le_of_ble_eq_true rfl)⟩) hP hD hS hA [1] [0, 2] rfl rfl rfl rfl (by decide) (fun _ => rfl) 0 0 rfl rfl (fun r_24 u_25 H locs hw hP hD hS => ?_)
    obtain rfl : r_24 = 0 := hw
    have hP : va_P (dC, dI) vwCl [((p0 1), .inl (cI, 9216, .inl (upd (fun k => if 0 ≤ k ∧ k < 9 then 2147483647 else 0) 0 0))), ((p0 0), .inr (4, [.ref (p0 1), .ref (p0 2), .ref (p0 3), .ref (p2 1), .int 1, .int 1])), ((p2 1), .inr (5, [.ref (p2 2), .ref (p2 3), .ref (p2 4), .ref (p2 5), .ref (p2 6), .ref (p2 7), .ref (p2 8), .ref (p2 9), .ref (p2 10), .ref (p2 11), .ref (p2 12), .ref (p2 13), .int 0, .int 0, .int 0, .int 0, .int 0, .int 100, .int 0, .int 0]))] H := hP
    have hD : va_D A [((p0 1), .inl (cI, 9216, .inl (upd (fun k => if 0 ≤ k ∧ k < 9 then 2147483647 else 0) 0 0))), ((p0 0), .inr (4, [.ref (p0 1), .ref (p0 2), .ref (p0 3), .ref (p2 1), .int 1, .int 1])), ((p2 1), .inr (5, [.ref (p2 2), .ref (p2 3), .ref (p2 4), .ref (p2 5), .ref (p2 6), .ref (p2 7), .ref (p2 8), .ref (p2 9), .ref (p2 10), .ref (p2 11), .ref (p2 12), .ref (p2 13), .int 0, .int 0, .int 0, .int 0, .int 0, .int 100, .int 0, .int 0]))] := hD
    refine lv_istore (lv' := [(5, .int 0), (4, .int 0), (3, .int (-1)), (2, .int (-1)), (0, .ref (p0 0)), (1, .int 5)]) hx hb dX4_mostBy_58 hl (by decide) rfl (fun ls hl => ?_)
    refine lv_iload hx hb dX4_mostBy_60 (lv_at hl 0 rfl) ?_
    refine lv_iload_n hx hb dX4_mostBy_62 rfl (lv_at hl 2 rfl) ?_
    refine lv_icmp_ne (tgt := 84) hx hb dX4_mostBy_63 (by decide) (fun _ => ?_) (fun q9 => absurd q9 (by decide +kernel))
    refine lv_iconst (v := 0) hx hb dX4_mostBy_84 (by decide +kernel) ?_
    refine lv_istore (lv' := [(6, .int 0), (5, .int 0), (4, .int 0), (3, .int (-1)), (2, .int (-1)), (0, .ref (p0 0)), (1, .int 5)]) hx hb dX4_mostBy_85 hl (by decide) rfl (fun ls hl => ?_)
    refine lv_iload hx hb dX4_mostBy_87 (lv_at hl 1 rfl) ?_
    refine lv_iload_n hx hb dX4_mostBy_89 rfl (lv_at hl 3 rfl) ?_
    refine lv_icmp_gt (tgt := 112) hx hb dX4_mostBy_90 (by decide) (fun _ => ?_) (fun q9 => absurd q9 (by decide +kernel))
    refine lv_iload hx hb dX4_mostBy_112 (lv_at hl 2 rfl) ?_
    refine lv_istore_n (lv' := [(2, .int 0), (6, .int 0), (5, .int 0), (4, .int 0), (3, .int (-1)), (0, .ref (p0 0)), (1, .int 5)]) hx hb dX4_mostBy_114 rfl hl (by decide) rfl (fun ls hl => ?_)
    refine lv_iload hx hb dX4_mostBy_115 (lv_at hl 2 rfl) ?_
    refine lv_istore_n (lv' := [(3, .int 0), (2, .int 0), (6, .int 0), (5, .int 0), (4, .int 0), (0, .ref (p0 0)), (1, .int 5)]) hx hb dX4_mostBy_117 rfl hl (by decide) rfl (fun ls hl => ?_)
    refine lv_iinc (v := 1) (lv' := [(4, .int 1), (3, .int 0), (2, .int 0), (6, .int 0), (5, .int 0), (0, .ref (p0 0)), (1, .int 5)]) hx hb dX4_mostBy_118 hl (k := 4) rfl (by decide +kernel) (by decide) rfl (fun ls hl => ?_)
    refine lv_goto (tgt := 7) hx hb dX4_mostBy_121 (by decide) ?_
    refine lv_iload hx hb dX4_mostBy_7 (lv_at hl 0 rfl) ?_
    refine lv_iload_n hx hb dX4_mostBy_9 rfl (lv_at hl 6 rfl) ?_
    refine lv_iconst (v := 1) hx hb dX4_mostBy_10 (by decide +kernel) ?_
    refine lv_iadd hx hb dX4_mostBy_11 ?_
    refine k_int (v := 6) (by decide +kernel) ?_
    refine lv_aload_n hx hb dX4_mostBy_12 rfl (lv_at hl 5 rfl) ?_
    refine k_get (D := (dC, dI)) (ci := 4) (v := .int 1) (C := RX4) (T := TX4) (N := 6) hx hb hts hinX4 hown hK hP 1 rfl rfl 4 (by decide) w_0 rfl rfl dX4_mostBy_13 ?_
    refine lv_imul hx hb dX4_mostBy_16 ?_
    refine k_int (v := 6) (by decide +kernel) ?_
    refine lv_icmp_ge (tgt := 124) hx hb dX4_mostBy_17 (by decide) (fun q9 => absurd q9 (by decide +kernel)) (fun _ => ?_)
    refine lv_iload hx hb dX4_mostBy_20 (lv_at hl 0 rfl) ?_
    refine lv_aload_n hx hb dX4_mostBy_22 rfl (lv_at hl 5 rfl) ?_
    refine k_get (D := (dC, dI)) (ci := 4) (v := .ref (p0 1)) (C := RX4) (T := TX4) (N := 6) hx hb hts hinX4 hown hK hP 1 rfl rfl 0 (by decide) w_1 rfl rfl dX4_mostBy_23 ?_
    refine va_alen (v := 9216) hx hb hK hP 0 0 rfl rfl rfl dX4_mostBy_26 ?_
    refine lv_icmp_ge (tgt := 124) hx hb dX4_mostBy_27 (by decide) (fun q9 => absurd q9 (by decide +kernel)) (fun _ => ?_)
    refine lv_aload_n hx hb dX4_mostBy_30 rfl (lv_at hl 5 rfl) ?_
    refine k_get (D := (dC, dI)) (ci := 4) (v := .ref (p0 1)) (C := RX4) (T := TX4) (N := 6) hx hb hts hinX4 hown hK hP 1 rfl rfl 0 (by decide) w_1 rfl rfl dX4_mostBy_31 ?_
    refine lv_iload hx hb dX4_mostBy_34 (lv_at hl 0 rfl) ?_
    refine k_iald (v := 2147483647) hx hb hK hP 0 0 1 rfl rfl rfl (Nat.le_of_ble_eq_true rfl) (Nat.le_of_ble_eq_true rfl) rfl dX4_mostBy_36 ?_
    refine lv_ldc (v := 2147483647) hx hb hown w_2 dX4_mostBy_37 ?_
    refine lv_icmp_ne (tgt := 45) hx hb dX4_mostBy_39 (by decide) (fun q9 => absurd q9 (by decide +kernel)) (fun _ => ?_)
    refine lv_goto (tgt := 118) hx hb dX4_mostBy_42 (by decide) ?_
    refine lv_iinc (v := 2) (lv' := [(4, .int 2), (3, .int 0), (2, .int 0), (6, .int 0), (5, .int 0), (0, .ref (p0 0)), (1, .int 5)]) hx hb dX4_mostBy_118 hl (k := 0) rfl (by decide +kernel) (by decide) rfl (fun ls hl => ?_)
    refine lv_goto (tgt := 7) hx hb dX4_mostBy_121 (by decide) ?_
    refine lv_iload hx hb dX4_mostBy_7 (lv_at hl 0 rfl) ?_
    refine lv_iload_n hx hb dX4_mostBy_9 rfl (lv_at hl 6 rfl) ?_
    refine lv_iconst (v := 1) hx hb dX4_mostBy_10 (by decide +kernel) ?_
    refine lv_iadd hx hb dX4_mostBy_11 ?_
    refine k_int (v := 6) (by decide +kernel) ?_
    refine lv_aload_n hx hb dX4_mostBy_12 rfl (lv_at hl 5 rfl) ?_
    refine k_get (D := (dC, dI)) (ci := 4) (v := .int 1) (C := RX4) (T := TX4) (N := 6) hx hb hts hinX4 hown hK hP 1 rfl rfl 4 (by decide) w_0 rfl rfl dX4_mostBy_13 ?_
    refine lv_imul hx hb dX4_mostBy_16 ?_
    refine k_int (v := 6) (by decide +kernel) ?_
    refine lv_icmp_ge (tgt := 124) hx hb dX4_mostBy_17 (by decide) (fun q9 => absurd q9 (by decide +kernel)) (fun _ => ?_)
    refine lv_iload hx hb dX4_mostBy_20 (lv_at hl 0 rfl) ?_
    refine lv_aload_n hx hb dX4_mostBy_22 rfl (lv_at hl 5 rfl) ?_
    refine k_get (D := (dC, dI)) (ci := 4) (v := .ref (p0 1)) (C := RX4) (T := TX4) (N := 6) hx hb hts hinX4 hown hK hP 1 rfl rfl 0 (by decide) w_1 rfl rfl dX4_mostBy_23 ?_
    refine va_alen (v := 9216) hx hb hK hP 0 0 rfl rfl rfl dX4_mostBy_26 ?_
    refine lv_icmp_ge (tgt := 124) hx hb dX4_mostBy_27 (by decide) (fun q9 => absurd q9 (by decide +kernel)) (fun _ => ?_)
    refine lv_aload_n hx hb dX4_mostBy_30 rfl (lv_at hl 5 rfl) ?_
    refine k_get (D := (dC, dI)) (ci := 4) (v := .ref (p0 1)) (C := RX4) (T := TX4) (N := 6) hx hb hts hinX4 hown hK hP 1 rfl rfl 0 (by decide) w_1 rfl rfl dX4_mostBy_31 ?_
    refine lv_iload hx hb dX4_mostBy_34 (lv_at hl 0 rfl) ?_
    refine k_iald (v := 2147483647) hx hb hK hP 0 0 2 rfl rfl rfl (Nat.le_of_ble_eq_true rfl) (Nat.le_of_ble_eq_true rfl) rfl dX4_mostBy_36 ?_
    refine lv_ldc (v := 2147483647) hx hb hown w_2 dX4_mostBy_37 ?_
    refine lv_icmp_ne (tgt := 45) hx hb dX4_mostBy_39 (by decide) (fun q9 => absurd q9 (by decide +kernel)) (fun _ => ?_)
    refine lv_goto (tgt := 118) hx hb dX4_mostBy_42 (by decide) ?_
    refine lv_iinc (v := 3) (lv' := [(4, .int 3), (3, .int 0), (2, .int 0), (6, .int 0), (5, .int 0), (0, .ref (p0 0)), (1, .int 5)]) hx hb dX4_mostBy_118 hl (k := 0) rfl (by decide +kernel) (by decide) rfl (fun ls hl => ?_)
    refine lv_goto (tgt := 7) hx hb dX4_mostBy_121 (by decide) ?_
    refine lv_iload hx hb dX4_mostBy_7 (lv_at hl 0 rfl) ?_
    refine lv_iload_n hx hb dX4_mostBy_9 rfl (lv_at hl 6 rfl) ?_
    refine lv_iconst (v := 1) hx hb dX4_mostBy_10 (by decide +kernel) ?_
    refine lv_iadd hx hb dX4_mostBy_11 ?_
    refine k_int (v := 6) (by decide +kernel) ?_
    refine lv_aload_n hx hb dX4_mostBy_12 rfl (lv_at hl 5 rfl) ?_
    refine k_get (D := (dC, dI)) (ci := 4) (v := .int 1) (C := RX4) (T := TX4) (N := 6) hx hb hts hinX4 hown hK hP 1 rfl rfl 4 (by decide) w_0 rfl rfl dX4_mostBy_13 ?_
    refine lv_imul hx hb dX4_mostBy_16 ?_
    refine k_int (v := 6) (by decide +kernel) ?_
    refine lv_icmp_ge (tgt := 124) hx hb dX4_mostBy_17 (by decide) (fun q9 => absurd q9 (by decide +kernel)) (fun _ => ?_)
    refine lv_iload hx hb dX4_mostBy_20 (lv_at hl 0 rfl) ?_
    refine lv_aload_n hx hb dX4_mostBy_22 rfl (lv_at hl 5 rfl) ?_
    refine k_get (D := (dC, dI)) (ci := 4) (v := .ref (p0 1)) (C := RX4) (T := TX4) (N := 6) hx hb hts hinX4 hown hK hP 1 rfl rfl 0 (by decide) w_1 rfl rfl dX4_mostBy_23 ?_
    refine va_alen (v := 9216) hx hb hK hP 0 0 rfl rfl rfl dX4_mostBy_26 ?_
    refine lv_icmp_ge (tgt := 124) hx hb dX4_mostBy_27 (by decide) (fun q9 => absurd q9 (by decide +kernel)) (fun _ => ?_)
    refine lv_aload_n hx hb dX4_mostBy_30 rfl (lv_at hl 5 rfl) ?_
    refine k_get (D := (dC, dI)) (ci := 4) (v := .ref (p0 1)) (C := RX4) (T := TX4) (N := 6) hx hb hts hinX4 hown hK hP 1 rfl rfl 0 (by decide) w_1 rfl rfl dX4_mostBy_31 ?_
    refine lv_iload hx hb dX4_mostBy_34 (lv_at hl 0 rfl) ?_
    refine k_iald (v := 2147483647) hx hb hK hP 0 0 3 rfl rfl rfl (Nat.le_of_ble_eq_true rfl) (Nat.le_of_ble_eq_true rfl) rfl dX4_mostBy_36 ?_
    refine lv_ldc (v := 2147483647) hx hb hown w_2 dX4_mostBy_37 ?_
    refine lv_icmp_ne (tgt := 45) hx hb dX4_mostBy_39 (by decide) (fun q9 => absurd q9 (by decide +kernel)) (fun _ => ?_)
    refine lv_goto (tgt := 118) hx hb dX4_mostBy_42 (by decide) ?_
    refine lv_iinc (v := 4) (lv' := [(4, .int 4), (3, .int 0), (2, .int 0), (6, .int 0), (5, .int 0), (0, .ref (p0 0)), (1, .int 5)]) hx hb dX4_mostBy_118 hl (k := 0) rfl (by decide +kernel) (by decide) rfl (fun ls hl => ?_)
    refine lv_goto (tgt := 7) hx hb dX4_mostBy_121 (by decide) ?_
    refine lv_iload hx hb dX4_mostBy_7 (lv_at hl 0 rfl) ?_
    refine lv_iload_n hx hb dX4_mostBy_9 rfl (lv_at hl 6 rfl) ?_
    refine lv_iconst (v := 1) hx hb dX4_mostBy_10 (by decide +kernel) ?_
    refine lv_iadd hx hb dX4_mostBy_11 ?_
    refine k_int (v := 6) (by decide +kernel) ?_
    refine lv_aload_n hx hb dX4_mostBy_12 rfl (lv_at hl 5 rfl) ?_
    refine k_get (D := (dC, dI)) (ci := 4) (v := .int 1) (C := RX4) (T := TX4) (N := 6) hx hb hts hinX4 hown hK hP 1 rfl rfl 4 (by decide) w_0 rfl rfl dX4_mostBy_13 ?_
    refine lv_imul hx hb dX4_mostBy_16 ?_
    refine k_int (v := 6) (by decide +kernel) ?_
    refine lv_icmp_ge (tgt := 124) hx hb dX4_mostBy_17 (by decide) (fun q9 => absurd q9 (by decide +kernel)) (fun _ => ?_)
    refine lv_iload hx hb dX4_mostBy_20 (lv_at hl 0 rfl) ?_
    refine lv_aload_n hx hb dX4_mostBy_22 rfl (lv_at hl 5 rfl) ?_
    refine k_get (D := (dC, dI)) (ci := 4) (v := .ref (p0 1)) (C := RX4) (T := TX4) (N := 6) hx hb hts hinX4 hown hK hP 1 rfl rfl 0 (by decide) w_1 rfl rfl dX4_mostBy_23 ?_
    refine va_alen (v := 9216) hx hb hK hP 0 0 rfl rfl rfl dX4_mostBy_26 ?_
    refine lv_icmp_ge (tgt := 124) hx hb dX4_mostBy_27 (by decide) (fun q9 => absurd q9 (by decide +kernel)) (fun _ => ?_)
    refine lv_aload_n hx hb dX4_mostBy_30 rfl (lv_at hl 5 rfl) ?_
    refine k_get (D := (dC, dI)) (ci := 4) (v := .ref (p0 1)) (C := RX4) (T := TX4) (N := 6) hx hb hts hinX4 hown hK hP 1 rfl rfl 0 (by decide) w_1 rfl rfl dX4_mostBy_31 ?_
    refine lv_iload hx hb dX4_mostBy_34 (lv_at hl 0 rfl) ?_
    refine k_iald (v := 2147483647) hx hb hK hP 0 0 4 rfl rfl rfl (Nat.le_of_ble_eq_true rfl) (Nat.le_of_ble_eq_true rfl) rfl dX4_mostBy_36 ?_
    refine lv_ldc (v := 2147483647) hx hb hown w_2 dX4_mostBy_37 ?_
    refine lv_icmp_ne (tgt := 45) hx hb dX4_mostBy_39 (by decide) (fun q9 => absurd q9 (by decide +kernel)) (fun _ => ?_)
    refine lv_goto (tgt := 118) hx hb dX4_mostBy_42 (by decide) ?_
    refine lv_iinc (v := 5) (lv' := [(4, .int 5), (3, .int 0), (2, .int 0), (6, .int 0), (5, .int 0), (0, .ref (p0 0)), (1, .int 5)]) hx hb dX4_mostBy_118 hl (k := 0) rfl (by decide +kernel) (by decide) rfl (fun ls hl => ?_)
    refine lv_goto (tgt := 7) hx hb dX4_mostBy_121 (by decide) ?_
    refine lv_iload hx hb dX4_mostBy_7 (lv_at hl 0 rfl) ?_
    refine lv_iload_n hx hb dX4_mostBy_9 rfl (lv_at hl 6 rfl) ?_
    refine lv_iconst (v := 1) hx hb dX4_mostBy_10 (by decide +kernel) ?_
    refine lv_iadd hx hb dX4_mostBy_11 ?_
    refine k_int (v := 6) (by decide +kernel) ?_
    refine lv_aload_n hx hb dX4_mostBy_12 rfl (lv_at hl 5 rfl) ?_
    refine k_get (D := (dC, dI)) (ci := 4) (v := .int 1) (C := RX4) (T := TX4) (N := 6) hx hb hts hinX4 hown hK hP 1 rfl rfl 4 (by decide) w_0 rfl rfl dX4_mostBy_13 ?_
    refine lv_imul hx hb dX4_mostBy_16 ?_
    refine k_int (v := 6) (by decide +kernel) ?_
    refine lv_icmp_ge (tgt := 124) hx hb dX4_mostBy_17 (by decide) (fun q9 => absurd q9 (by decide +kernel)) (fun _ => ?_)
    refine lv_iload hx hb dX4_mostBy_20 (lv_at hl 0 rfl) ?_
    refine lv_aload_n hx hb dX4_mostBy_22 rfl (lv_at hl 5 rfl) ?_
    refine k_get (D := (dC, dI)) (ci := 4) (v := .ref (p0 1)) (C := RX4) (T := TX4) (N := 6) hx hb hts hinX4 hown hK hP 1 rfl rfl 0 (by decide) w_1 rfl rfl dX4_mostBy_23 ?_
    refine va_alen (v := 9216) hx hb hK hP 0 0 rfl rfl rfl dX4_mostBy_26 ?_
    refine lv_icmp_ge (tgt := 124) hx hb dX4_mostBy_27 (by decide) (fun q9 => absurd q9 (by decide +kernel)) (fun _ => ?_)
    refine lv_aload_n hx hb dX4_mostBy_30 rfl (lv_at hl 5 rfl) ?_
    refine k_get (D := (dC, dI)) (ci := 4) (v := .ref (p0 1)) (C := RX4) (T := TX4) (N := 6) hx hb hts hinX4 hown hK hP 1 rfl rfl 0 (by decide) w_1 rfl rfl dX4_mostBy_31 ?_
    refine lv_iload hx hb dX4_mostBy_34 (lv_at hl 0 rfl) ?_
    refine k_iald (v := 2147483647) hx hb hK hP 0 0 5 rfl rfl rfl (Nat.le_of_ble_eq_true rfl) (Nat.le_of_ble_eq_true rfl) rfl dX4_mostBy_36 ?_
    refine lv_ldc (v := 2147483647) hx hb hown w_2 dX4_mostBy_37 ?_
    refine lv_icmp_ne (tgt := 45) hx hb dX4_mostBy_39 (by decide) (fun q9 => absurd q9 (by decide +kernel)) (fun _ => ?_)
    refine lv_goto (tgt := 118) hx hb dX4_mostBy_42 (by decide) ?_
    refine lv_iinc (v := 6) (lv' := [(4, .int 6), (3, .int 0), (2, .int 0), (6, .int 0), (5, .int 0), (0, .ref (p0 0)), (1, .int 5)]) hx hb dX4_mostBy_118 hl (k := 0) rfl (by decide +kernel) (by decide) rfl (fun ls hl => ?_)
    refine lv_goto (tgt := 7) hx hb dX4_mostBy_121 (by decide) ?_
    refine lv_iload hx hb dX4_mostBy_7 (lv_at hl 0 rfl) ?_
    refine lv_iload_n hx hb dX4_mostBy_9 rfl (lv_at hl 6 rfl) ?_
    refine lv_iconst (v := 1) hx hb dX4_mostBy_10 (by decide +kernel) ?_
    refine lv_iadd hx hb dX4_mostBy_11 ?_
    refine k_int (v := 6) (by decide +kernel) ?_
    refine lv_aload_n hx hb dX4_mostBy_12 rfl (lv_at hl 5 rfl) ?_
    refine k_get (D := (dC, dI)) (ci := 4) (v := .int 1) (C := RX4) (T := TX4) (N := 6) hx hb hts hinX4 hown hK hP 1 rfl rfl 4 (by decide) w_0 rfl rfl dX4_mostBy_13 ?_
    refine lv_imul hx hb dX4_mostBy_16 ?_
    refine k_int (v := 6) (by decide +kernel) ?_
    refine lv_icmp_ge (tgt := 124) hx hb dX4_mostBy_17 (by decide) (fun _ => ?_) (fun q9 => absurd q9 (by decide +kernel))
    refine lv_iload_n hx hb dX4_mostBy_124 rfl (lv_at hl 2 rfl) ?_
    exact k_ri B hP hD hS dX4_mostBy_125 () [1, 0, 2] rfl rfl rfl (Nat.le_of_ble_eq_true rfl) (Nat.le_of_ble_eq_true rfl) rfl
  · obtain rfl : p1 = 6 := k_eqL (by decide +kernel) c_1
    refine lv_iconst (v := (-1)) hx hb dX4_mostBy_0 (by decide +kernel) ?_
    refine lv_istore_n (lv' := [(2, .int (-1)), (0, .ref (p0 0)), (1, .int 6)]) hx hb dX4_mostBy_1 rfl hl (by decide) rfl (fun ls hl => ?_)
    refine lv_iconst (v := (-1)) hx hb dX4_mostBy_2 (by decide +kernel) ?_
    refine lv_istore_n (lv' := [(3, .int (-1)), (2, .int (-1)), (0, .ref (p0 0)), (1, .int 6)]) hx hb dX4_mostBy_3 rfl hl (by decide) rfl (fun ls hl => ?_)
    refine lv_iconst (v := 0) hx hb dX4_mostBy_4 (by decide +kernel) ?_
    refine lv_istore (lv' := [(4, .int 0), (3, .int (-1)), (2, .int (-1)), (0, .ref (p0 0)), (1, .int 6)]) hx hb dX4_mostBy_5 hl (by decide) rfl (fun ls hl => ?_)
    refine lv_iload hx hb dX4_mostBy_7 (lv_at hl 0 rfl) ?_
    refine lv_iload_n hx hb dX4_mostBy_9 rfl (lv_at hl 4 rfl) ?_
    refine lv_iconst (v := 1) hx hb dX4_mostBy_10 (by decide +kernel) ?_
    refine lv_iadd hx hb dX4_mostBy_11 ?_
    refine k_int (v := 7) (by decide +kernel) ?_
    refine lv_aload_n hx hb dX4_mostBy_12 rfl (lv_at hl 3 rfl) ?_
    refine k_get (D := (dC, dI)) (ci := 4) (v := .int 1) (C := RX4) (T := TX4) (N := 6) hx hb hts hinX4 hown hK hP 0 rfl rfl 4 (by decide) w_0 rfl rfl dX4_mostBy_13 ?_
    refine lv_imul hx hb dX4_mostBy_16 ?_
    refine k_int (v := 7) (by decide +kernel) ?_
    refine lv_icmp_ge (tgt := 124) hx hb dX4_mostBy_17 (by decide) (fun q9 => absurd q9 (by decide +kernel)) (fun _ => ?_)
    refine lv_iload hx hb dX4_mostBy_20 (lv_at hl 0 rfl) ?_
    refine lv_aload_n hx hb dX4_mostBy_22 rfl (lv_at hl 3 rfl) ?_
    refine k_get (D := (dC, dI)) (ci := 4) (v := .ref (p0 1)) (C := RX4) (T := TX4) (N := 6) hx hb hts hinX4 hown hK hP 0 rfl rfl 0 (by decide) w_1 rfl rfl dX4_mostBy_23 ?_
    refine va_alen (v := 9216) hx hb hK hP 1 0 rfl rfl rfl dX4_mostBy_26 ?_
    refine lv_icmp_ge (tgt := 124) hx hb dX4_mostBy_27 (by decide) (fun q9 => absurd q9 (by decide +kernel)) (fun _ => ?_)
    refine lv_aload_n hx hb dX4_mostBy_30 rfl (lv_at hl 3 rfl) ?_
    refine k_get (D := (dC, dI)) (ci := 4) (v := .ref (p0 1)) (C := RX4) (T := TX4) (N := 6) hx hb hts hinX4 hown hK hP 0 rfl rfl 0 (by decide) w_1 rfl rfl dX4_mostBy_31 ?_
    refine lv_iload hx hb dX4_mostBy_34 (lv_at hl 0 rfl) ?_
    refine k_iald (v := 0) hx hb hK hP 1 0 0 rfl rfl rfl (Nat.le_of_ble_eq_true rfl) (Nat.le_of_ble_eq_true rfl) rfl dX4_mostBy_36 ?_
    refine lv_ldc (v := 2147483647) hx hb hown w_2 dX4_mostBy_37 ?_
    refine lv_icmp_ne (tgt := 45) hx hb dX4_mostBy_39 (by decide) (fun _ => ?_) (fun q9 => absurd q9 (by decide +kernel))
    refine lv_aload_n hx hb dX4_mostBy_45 rfl (lv_at hl 3 rfl) ?_
    refine k_get (D := (dC, dI)) (ci := 4) (v := .ref (p2 1)) (C := RX4) (T := TX4) (N := 6) hx hb hts hinX4 hown hK hP 0 rfl rfl 3 (by decide) w_3 rfl rfl dX4_mostBy_46 ?_
    refine lv_aload_n hx hb dX4_mostBy_49 rfl (lv_at hl 3 rfl) ?_
    refine lv_iload hx hb dX4_mostBy_50 (lv_at hl 0 rfl) ?_
    refine k_ci (wc := [((p0 0), .inr (4, [.ref (p0 1), .ref (p0 2), .ref (p0 3), .ref (p2 1), .int 1, .int 1]))]) (wr := [((p0 1), .inl (cI, 9216, .inl (upd (fun k => if 0 ≤ k ∧ k < 9 then 2147483647 else 0) 0 0))), ((p2 1), .inr (5, [.ref (p2 2), .ref (p2 3), .ref (p2 4), .ref (p2 5), .ref (p2 6), .ref (p2 7), .ref (p2 8), .ref (p2 9), .ref (p2 10), .ref (p2 11), .ref (p2 12), .ref (p2 13), .int 0, .int 0, .int 0, .int 0, .int 0, .int 100, .int 0, .int 0]))]) (fun hPc hDc hFc => va_runV (As := [.int 0]) (rest := [.ref (p2 1)]) ⟨hx, hb, hml, hown, hts⟩ (c_X4_setOf_v0 l dC dI cI cJ cZ cM p0 p2 H.size) (cwV 1 hts gX4_mostBy_X4_setOf rfl rfl rfl (by decide +kernel) ⟨(Nat.le_of_ble_eq_true rfl), (Nat.le_of_ble_eq_true rfl)⟩) (k_pV hPc hDc hK hN hC hS hFc hP (q0 := 0) (ci := 4) rfl rfl) rfl rfl hl.1 rfl (lv_room (Nat.le_of_ble_eq_true rfl)) dX4_mostBy_52 ⟨(Nat.le_of_ble_eq_true rfl), (Nat.le_of_ble_eq_true rfl)⟩) hP hD hS hA [0] [1, 2] rfl rfl rfl rfl (by decide) (fun _ => rfl) 0 0 rfl rfl (fun r_26 u_27 H locs hw hP hD hS => ?_)
    obtain rfl : r_26 = 0 := hw
    have hP : va_P (dC, dI) vwCl [((p0 1), .inl (cI, 9216, .inl (upd (fun k => if 0 ≤ k ∧ k < 9 then 2147483647 else 0) 0 0))), ((p2 1), .inr (5, [.ref (p2 2), .ref (p2 3), .ref (p2 4), .ref (p2 5), .ref (p2 6), .ref (p2 7), .ref (p2 8), .ref (p2 9), .ref (p2 10), .ref (p2 11), .ref (p2 12), .ref (p2 13), .int 0, .int 0, .int 0, .int 0, .int 0, .int 100, .int 0, .int 0])), ((p0 0), .inr (4, [.ref (p0 1), .ref (p0 2), .ref (p0 3), .ref (p2 1), .int 1, .int 1]))] H := hP
    have hD : va_D A [((p0 1), .inl (cI, 9216, .inl (upd (fun k => if 0 ≤ k ∧ k < 9 then 2147483647 else 0) 0 0))), ((p2 1), .inr (5, [.ref (p2 2), .ref (p2 3), .ref (p2 4), .ref (p2 5), .ref (p2 6), .ref (p2 7), .ref (p2 8), .ref (p2 9), .ref (p2 10), .ref (p2 11), .ref (p2 12), .ref (p2 13), .int 0, .int 0, .int 0, .int 0, .int 0, .int 100, .int 0, .int 0])), ((p0 0), .inr (4, [.ref (p0 1), .ref (p0 2), .ref (p0 3), .ref (p2 1), .int 1, .int 1]))] := hD
    refine k_ci (wc := [((p2 1), .inr (5, [.ref (p2 2), .ref (p2 3), .ref (p2 4), .ref (p2 5), .ref (p2 6), .ref (p2 7), .ref (p2 8), .ref (p2 9), .ref (p2 10), .ref (p2 11), .ref (p2 12), .ref (p2 13), .int 0, .int 0, .int 0, .int 0, .int 0, .int 100, .int 0, .int 0]))]) (wr := [((p0 1), .inl (cI, 9216, .inl (upd (fun k => if 0 ≤ k ∧ k < 9 then 2147483647 else 0) 0 0))), ((p0 0), .inr (4, [.ref (p0 1), .ref (p0 2), .ref (p0 3), .ref (p2 1), .int 1, .int 1]))]) (fun hPc hDc hFc => va_runV (As := [.int 0]) (rest := []) ⟨hx, hb, hml, hown, hts⟩ (c_X5_lastingWorthOf_v0 l dC dI cI cJ cZ cM p2 H.size) (cwV 1 hts gX4_mostBy_X5_lastingWorthOf rfl rfl rfl (by decide +kernel) ⟨(Nat.le_of_ble_eq_true rfl), (Nat.le_of_ble_eq_true rfl)⟩) (k_pV hPc hDc hK hN hC hS hFc hP (q0 := 1) (ci := 5) rfl rfl) rfl rfl hl.1 rfl (lv_room (Nat.le_of_ble_eq_true rfl)) dX4_mostBy_55 ⟨(Nat.le_of_ble_eq_true rfl), (Nat.le_of_ble_eq_true rfl)⟩) hP hD hS hA [1] [0, 2] rfl rfl rfl rfl (by decide) (fun _ => rfl) 0 0 rfl rfl (fun r_28 u_29 H locs hw hP hD hS => ?_)
    obtain rfl : r_28 = 0 := hw
    have hP : va_P (dC, dI) vwCl [((p0 1), .inl (cI, 9216, .inl (upd (fun k => if 0 ≤ k ∧ k < 9 then 2147483647 else 0) 0 0))), ((p0 0), .inr (4, [.ref (p0 1), .ref (p0 2), .ref (p0 3), .ref (p2 1), .int 1, .int 1])), ((p2 1), .inr (5, [.ref (p2 2), .ref (p2 3), .ref (p2 4), .ref (p2 5), .ref (p2 6), .ref (p2 7), .ref (p2 8), .ref (p2 9), .ref (p2 10), .ref (p2 11), .ref (p2 12), .ref (p2 13), .int 0, .int 0, .int 0, .int 0, .int 0, .int 100, .int 0, .int 0]))] H := hP
    have hD : va_D A [((p0 1), .inl (cI, 9216, .inl (upd (fun k => if 0 ≤ k ∧ k < 9 then 2147483647 else 0) 0 0))), ((p0 0), .inr (4, [.ref (p0 1), .ref (p0 2), .ref (p0 3), .ref (p2 1), .int 1, .int 1])), ((p2 1), .inr (5, [.ref (p2 2), .ref (p2 3), .ref (p2 4), .ref (p2 5), .ref (p2 6), .ref (p2 7), .ref (p2 8), .ref (p2 9), .ref (p2 10), .ref (p2 11), .ref (p2 12), .ref (p2 13), .int 0, .int 0, .int 0, .int 0, .int 0, .int 100, .int 0, .int 0]))] := hD
    refine lv_istore (lv' := [(5, .int 0), (4, .int 0), (3, .int (-1)), (2, .int (-1)), (0, .ref (p0 0)), (1, .int 6)]) hx hb dX4_mostBy_58 hl (by decide) rfl (fun ls hl => ?_)
    refine lv_iload hx hb dX4_mostBy_60 (lv_at hl 0 rfl) ?_
    refine lv_iload_n hx hb dX4_mostBy_62 rfl (lv_at hl 2 rfl) ?_
    refine lv_icmp_ne (tgt := 84) hx hb dX4_mostBy_63 (by decide) (fun _ => ?_) (fun q9 => absurd q9 (by decide +kernel))
    refine lv_iconst (v := 0) hx hb dX4_mostBy_84 (by decide +kernel) ?_
    refine lv_istore (lv' := [(6, .int 0), (5, .int 0), (4, .int 0), (3, .int (-1)), (2, .int (-1)), (0, .ref (p0 0)), (1, .int 6)]) hx hb dX4_mostBy_85 hl (by decide) rfl (fun ls hl => ?_)
    refine lv_iload hx hb dX4_mostBy_87 (lv_at hl 1 rfl) ?_
    refine lv_iload_n hx hb dX4_mostBy_89 rfl (lv_at hl 3 rfl) ?_
    refine lv_icmp_gt (tgt := 112) hx hb dX4_mostBy_90 (by decide) (fun _ => ?_) (fun q9 => absurd q9 (by decide +kernel))
    refine lv_iload hx hb dX4_mostBy_112 (lv_at hl 2 rfl) ?_
    refine lv_istore_n (lv' := [(2, .int 0), (6, .int 0), (5, .int 0), (4, .int 0), (3, .int (-1)), (0, .ref (p0 0)), (1, .int 6)]) hx hb dX4_mostBy_114 rfl hl (by decide) rfl (fun ls hl => ?_)
    refine lv_iload hx hb dX4_mostBy_115 (lv_at hl 2 rfl) ?_
    refine lv_istore_n (lv' := [(3, .int 0), (2, .int 0), (6, .int 0), (5, .int 0), (4, .int 0), (0, .ref (p0 0)), (1, .int 6)]) hx hb dX4_mostBy_117 rfl hl (by decide) rfl (fun ls hl => ?_)
    refine lv_iinc (v := 1) (lv' := [(4, .int 1), (3, .int 0), (2, .int 0), (6, .int 0), (5, .int 0), (0, .ref (p0 0)), (1, .int 6)]) hx hb dX4_mostBy_118 hl (k := 4) rfl (by decide +kernel) (by decide) rfl (fun ls hl => ?_)
    refine lv_goto (tgt := 7) hx hb dX4_mostBy_121 (by decide) ?_
    refine lv_iload hx hb dX4_mostBy_7 (lv_at hl 0 rfl) ?_
    refine lv_iload_n hx hb dX4_mostBy_9 rfl (lv_at hl 6 rfl) ?_
    refine lv_iconst (v := 1) hx hb dX4_mostBy_10 (by decide +kernel) ?_
    refine lv_iadd hx hb dX4_mostBy_11 ?_
    refine k_int (v := 7) (by decide +kernel) ?_
    refine lv_aload_n hx hb dX4_mostBy_12 rfl (lv_at hl 5 rfl) ?_
    refine k_get (D := (dC, dI)) (ci := 4) (v := .int 1) (C := RX4) (T := TX4) (N := 6) hx hb hts hinX4 hown hK hP 1 rfl rfl 4 (by decide) w_0 rfl rfl dX4_mostBy_13 ?_
    refine lv_imul hx hb dX4_mostBy_16 ?_
    refine k_int (v := 7) (by decide +kernel) ?_
    refine lv_icmp_ge (tgt := 124) hx hb dX4_mostBy_17 (by decide) (fun q9 => absurd q9 (by decide +kernel)) (fun _ => ?_)
    refine lv_iload hx hb dX4_mostBy_20 (lv_at hl 0 rfl) ?_
    refine lv_aload_n hx hb dX4_mostBy_22 rfl (lv_at hl 5 rfl) ?_
    refine k_get (D := (dC, dI)) (ci := 4) (v := .ref (p0 1)) (C := RX4) (T := TX4) (N := 6) hx hb hts hinX4 hown hK hP 1 rfl rfl 0 (by decide) w_1 rfl rfl dX4_mostBy_23 ?_
    refine va_alen (v := 9216) hx hb hK hP 0 0 rfl rfl rfl dX4_mostBy_26 ?_
    refine lv_icmp_ge (tgt := 124) hx hb dX4_mostBy_27 (by decide) (fun q9 => absurd q9 (by decide +kernel)) (fun _ => ?_)
    refine lv_aload_n hx hb dX4_mostBy_30 rfl (lv_at hl 5 rfl) ?_
    refine k_get (D := (dC, dI)) (ci := 4) (v := .ref (p0 1)) (C := RX4) (T := TX4) (N := 6) hx hb hts hinX4 hown hK hP 1 rfl rfl 0 (by decide) w_1 rfl rfl dX4_mostBy_31 ?_
    refine lv_iload hx hb dX4_mostBy_34 (lv_at hl 0 rfl) ?_
    refine k_iald (v := 2147483647) hx hb hK hP 0 0 1 rfl rfl rfl (Nat.le_of_ble_eq_true rfl) (Nat.le_of_ble_eq_true rfl) rfl dX4_mostBy_36 ?_
    refine lv_ldc (v := 2147483647) hx hb hown w_2 dX4_mostBy_37 ?_
    refine lv_icmp_ne (tgt := 45) hx hb dX4_mostBy_39 (by decide) (fun q9 => absurd q9 (by decide +kernel)) (fun _ => ?_)
    refine lv_goto (tgt := 118) hx hb dX4_mostBy_42 (by decide) ?_
    refine lv_iinc (v := 2) (lv' := [(4, .int 2), (3, .int 0), (2, .int 0), (6, .int 0), (5, .int 0), (0, .ref (p0 0)), (1, .int 6)]) hx hb dX4_mostBy_118 hl (k := 0) rfl (by decide +kernel) (by decide) rfl (fun ls hl => ?_)
    refine lv_goto (tgt := 7) hx hb dX4_mostBy_121 (by decide) ?_
    refine lv_iload hx hb dX4_mostBy_7 (lv_at hl 0 rfl) ?_
    refine lv_iload_n hx hb dX4_mostBy_9 rfl (lv_at hl 6 rfl) ?_
    refine lv_iconst (v := 1) hx hb dX4_mostBy_10 (by decide +kernel) ?_
    refine lv_iadd hx hb dX4_mostBy_11 ?_
    refine k_int (v := 7) (by decide +kernel) ?_
    refine lv_aload_n hx hb dX4_mostBy_12 rfl (lv_at hl 5 rfl) ?_
    refine k_get (D := (dC, dI)) (ci := 4) (v := .int 1) (C := RX4) (T := TX4) (N := 6) hx hb hts hinX4 hown hK hP 1 rfl rfl 4 (by decide) w_0 rfl rfl dX4_mostBy_13 ?_
    refine lv_imul hx hb dX4_mostBy_16 ?_
    refine k_int (v := 7) (by decide +kernel) ?_
    refine lv_icmp_ge (tgt := 124) hx hb dX4_mostBy_17 (by decide) (fun q9 => absurd q9 (by decide +kernel)) (fun _ => ?_)
    refine lv_iload hx hb dX4_mostBy_20 (lv_at hl 0 rfl) ?_
    refine lv_aload_n hx hb dX4_mostBy_22 rfl (lv_at hl 5 rfl) ?_
    refine k_get (D := (dC, dI)) (ci := 4) (v := .ref (p0 1)) (C := RX4) (T := TX4) (N := 6) hx hb hts hinX4 hown hK hP 1 rfl rfl 0 (by decide) w_1 rfl rfl dX4_mostBy_23 ?_
    refine va_alen (v := 9216) hx hb hK hP 0 0 rfl rfl rfl dX4_mostBy_26 ?_
    refine lv_icmp_ge (tgt := 124) hx hb dX4_mostBy_27 (by decide) (fun q9 => absurd q9 (by decide +kernel)) (fun _ => ?_)
    refine lv_aload_n hx hb dX4_mostBy_30 rfl (lv_at hl 5 rfl) ?_
    refine k_get (D := (dC, dI)) (ci := 4) (v := .ref (p0 1)) (C := RX4) (T := TX4) (N := 6) hx hb hts hinX4 hown hK hP 1 rfl rfl 0 (by decide) w_1 rfl rfl dX4_mostBy_31 ?_
    refine lv_iload hx hb dX4_mostBy_34 (lv_at hl 0 rfl) ?_
    refine k_iald (v := 2147483647) hx hb hK hP 0 0 2 rfl rfl rfl (Nat.le_of_ble_eq_true rfl) (Nat.le_of_ble_eq_true rfl) rfl dX4_mostBy_36 ?_
    refine lv_ldc (v := 2147483647) hx hb hown w_2 dX4_mostBy_37 ?_
    refine lv_icmp_ne (tgt := 45) hx hb dX4_mostBy_39 (by decide) (fun q9 => absurd q9 (by decide +kernel)) (fun _ => ?_)
    refine lv_goto (tgt := 118) hx hb dX4_mostBy_42 (by decide) ?_
    refine lv_iinc (v := 3) (lv' := [(4, .int 3), (3, .int 0), (2, .int 0), (6, .int 0), (5, .int 0), (0, .ref (p0 0)), (1, .int 6)]) hx hb dX4_mostBy_118 hl (k := 0) rfl (by decide +kernel) (by decide) rfl (fun ls hl => ?_)
    refine lv_goto (tgt := 7) hx hb dX4_mostBy_121 (by decide) ?_
    refine lv_iload hx hb dX4_mostBy_7 (lv_at hl 0 rfl) ?_
    refine lv_iload_n hx hb dX4_mostBy_9 rfl (lv_at hl 6 rfl) ?_
    refine lv_iconst (v := 1) hx hb dX4_mostBy_10 (by decide +kernel) ?_
    refine lv_iadd hx hb dX4_mostBy_11 ?_
    refine k_int (v := 7) (by decide +kernel) ?_
    refine lv_aload_n hx hb dX4_mostBy_12 rfl (lv_at hl 5 rfl) ?_
    refine k_get (D := (dC, dI)) (ci := 4) (v := .int 1) (C := RX4) (T := TX4) (N := 6) hx hb hts hinX4 hown hK hP 1 rfl rfl 4 (by decide) w_0 rfl rfl dX4_mostBy_13 ?_
    refine lv_imul hx hb dX4_mostBy_16 ?_
    refine k_int (v := 7) (by decide +kernel) ?_
    refine lv_icmp_ge (tgt := 124) hx hb dX4_mostBy_17 (by decide) (fun q9 => absurd q9 (by decide +kernel)) (fun _ => ?_)
    refine lv_iload hx hb dX4_mostBy_20 (lv_at hl 0 rfl) ?_
    refine lv_aload_n hx hb dX4_mostBy_22 rfl (lv_at hl 5 rfl) ?_
    refine k_get (D := (dC, dI)) (ci := 4) (v := .ref (p0 1)) (C := RX4) (T := TX4) (N := 6) hx hb hts hinX4 hown hK hP 1 rfl rfl 0 (by decide) w_1 rfl rfl dX4_mostBy_23 ?_
    refine va_alen (v := 9216) hx hb hK hP 0 0 rfl rfl rfl dX4_mostBy_26 ?_
    refine lv_icmp_ge (tgt := 124) hx hb dX4_mostBy_27 (by decide) (fun q9 => absurd q9 (by decide +kernel)) (fun _ => ?_)
    refine lv_aload_n hx hb dX4_mostBy_30 rfl (lv_at hl 5 rfl) ?_
    refine k_get (D := (dC, dI)) (ci := 4) (v := .ref (p0 1)) (C := RX4) (T := TX4) (N := 6) hx hb hts hinX4 hown hK hP 1 rfl rfl 0 (by decide) w_1 rfl rfl dX4_mostBy_31 ?_
    refine lv_iload hx hb dX4_mostBy_34 (lv_at hl 0 rfl) ?_
    refine k_iald (v := 2147483647) hx hb hK hP 0 0 3 rfl rfl rfl (Nat.le_of_ble_eq_true rfl) (Nat.le_of_ble_eq_true rfl) rfl dX4_mostBy_36 ?_
    refine lv_ldc (v := 2147483647) hx hb hown w_2 dX4_mostBy_37 ?_
    refine lv_icmp_ne (tgt := 45) hx hb dX4_mostBy_39 (by decide) (fun q9 => absurd q9 (by decide +kernel)) (fun _ => ?_)
    refine lv_goto (tgt := 118) hx hb dX4_mostBy_42 (by decide) ?_
    refine lv_iinc (v := 4) (lv' := [(4, .int 4), (3, .int 0), (2, .int 0), (6, .int 0), (5, .int 0), (0, .ref (p0 0)), (1, .int 6)]) hx hb dX4_mostBy_118 hl (k := 0) rfl (by decide +kernel) (by decide) rfl (fun ls hl => ?_)
    refine lv_goto (tgt := 7) hx hb dX4_mostBy_121 (by decide) ?_
    refine lv_iload hx hb dX4_mostBy_7 (lv_at hl 0 rfl) ?_
    refine lv_iload_n hx hb dX4_mostBy_9 rfl (lv_at hl 6 rfl) ?_
    refine lv_iconst (v := 1) hx hb dX4_mostBy_10 (by decide +kernel) ?_
    refine lv_iadd hx hb dX4_mostBy_11 ?_
    refine k_int (v := 7) (by decide +kernel) ?_
    refine lv_aload_n hx hb dX4_mostBy_12 rfl (lv_at hl 5 rfl) ?_
    refine k_get (D := (dC, dI)) (ci := 4) (v := .int 1) (C := RX4) (T := TX4) (N := 6) hx hb hts hinX4 hown hK hP 1 rfl rfl 4 (by decide) w_0 rfl rfl dX4_mostBy_13 ?_
    refine lv_imul hx hb dX4_mostBy_16 ?_
    refine k_int (v := 7) (by decide +kernel) ?_
    refine lv_icmp_ge (tgt := 124) hx hb dX4_mostBy_17 (by decide) (fun q9 => absurd q9 (by decide +kernel)) (fun _ => ?_)
    refine lv_iload hx hb dX4_mostBy_20 (lv_at hl 0 rfl) ?_
    refine lv_aload_n hx hb dX4_mostBy_22 rfl (lv_at hl 5 rfl) ?_
    refine k_get (D := (dC, dI)) (ci := 4) (v := .ref (p0 1)) (C := RX4) (T := TX4) (N := 6) hx hb hts hinX4 hown hK hP 1 rfl rfl 0 (by decide) w_1 rfl rfl dX4_mostBy_23 ?_
    refine va_alen (v := 9216) hx hb hK hP 0 0 rfl rfl rfl dX4_mostBy_26 ?_
    refine lv_icmp_ge (tgt := 124) hx hb dX4_mostBy_27 (by decide) (fun q9 => absurd q9 (by decide +kernel)) (fun _ => ?_)
    refine lv_aload_n hx hb dX4_mostBy_30 rfl (lv_at hl 5 rfl) ?_
    refine k_get (D := (dC, dI)) (ci := 4) (v := .ref (p0 1)) (C := RX4) (T := TX4) (N := 6) hx hb hts hinX4 hown hK hP 1 rfl rfl 0 (by decide) w_1 rfl rfl dX4_mostBy_31 ?_
    refine lv_iload hx hb dX4_mostBy_34 (lv_at hl 0 rfl) ?_
    refine k_iald (v := 2147483647) hx hb hK hP 0 0 4 rfl rfl rfl (Nat.le_of_ble_eq_true rfl) (Nat.le_of_ble_eq_true rfl) rfl dX4_mostBy_36 ?_
    refine lv_ldc (v := 2147483647) hx hb hown w_2 dX4_mostBy_37 ?_
    refine lv_icmp_ne (tgt := 45) hx hb dX4_mostBy_39 (by decide) (fun q9 => absurd q9 (by decide +kernel)) (fun _ => ?_)
    refine lv_goto (tgt := 118) hx hb dX4_mostBy_42 (by decide) ?_
    refine lv_iinc (v := 5) (lv' := [(4, .int 5), (3, .int 0), (2, .int 0), (6, .int 0), (5, .int 0), (0, .ref (p0 0)), (1, .int 6)]) hx hb dX4_mostBy_118 hl (k := 0) rfl (by decide +kernel) (by decide) rfl (fun ls hl => ?_)
    refine lv_goto (tgt := 7) hx hb dX4_mostBy_121 (by decide) ?_
    refine lv_iload hx hb dX4_mostBy_7 (lv_at hl 0 rfl) ?_
    refine lv_iload_n hx hb dX4_mostBy_9 rfl (lv_at hl 6 rfl) ?_
    refine lv_iconst (v := 1) hx hb dX4_mostBy_10 (by decide +kernel) ?_
    refine lv_iadd hx hb dX4_mostBy_11 ?_
    refine k_int (v := 7) (by decide +kernel) ?_
    refine lv_aload_n hx hb dX4_mostBy_12 rfl (lv_at hl 5 rfl) ?_
    refine k_get (D := (dC, dI)) (ci := 4) (v := .int 1) (C := RX4) (T := TX4) (N := 6) hx hb hts hinX4 hown hK hP 1 rfl rfl 4 (by decide) w_0 rfl rfl dX4_mostBy_13 ?_
    refine lv_imul hx hb dX4_mostBy_16 ?_
    refine k_int (v := 7) (by decide +kernel) ?_
    refine lv_icmp_ge (tgt := 124) hx hb dX4_mostBy_17 (by decide) (fun q9 => absurd q9 (by decide +kernel)) (fun _ => ?_)
    refine lv_iload hx hb dX4_mostBy_20 (lv_at hl 0 rfl) ?_
    refine lv_aload_n hx hb dX4_mostBy_22 rfl (lv_at hl 5 rfl) ?_
    refine k_get (D := (dC, dI)) (ci := 4) (v := .ref (p0 1)) (C := RX4) (T := TX4) (N := 6) hx hb hts hinX4 hown hK hP 1 rfl rfl 0 (by decide) w_1 rfl rfl dX4_mostBy_23 ?_
    refine va_alen (v := 9216) hx hb hK hP 0 0 rfl rfl rfl dX4_mostBy_26 ?_
    refine lv_icmp_ge (tgt := 124) hx hb dX4_mostBy_27 (by decide) (fun q9 => absurd q9 (by decide +kernel)) (fun _ => ?_)
    refine lv_aload_n hx hb dX4_mostBy_30 rfl (lv_at hl 5 rfl) ?_
    refine k_get (D := (dC, dI)) (ci := 4) (v := .ref (p0 1)) (C := RX4) (T := TX4) (N := 6) hx hb hts hinX4 hown hK hP 1 rfl rfl 0 (by decide) w_1 rfl rfl dX4_mostBy_31 ?_
    refine lv_iload hx hb dX4_mostBy_34 (lv_at hl 0 rfl) ?_
    refine k_iald (v := 2147483647) hx hb hK hP 0 0 5 rfl rfl rfl (Nat.le_of_ble_eq_true rfl) (Nat.le_of_ble_eq_true rfl) rfl dX4_mostBy_36 ?_
    refine lv_ldc (v := 2147483647) hx hb hown w_2 dX4_mostBy_37 ?_
    refine lv_icmp_ne (tgt := 45) hx hb dX4_mostBy_39 (by decide) (fun q9 => absurd q9 (by decide +kernel)) (fun _ => ?_)
    refine lv_goto (tgt := 118) hx hb dX4_mostBy_42 (by decide) ?_
    refine lv_iinc (v := 6) (lv' := [(4, .int 6), (3, .int 0), (2, .int 0), (6, .int 0), (5, .int 0), (0, .ref (p0 0)), (1, .int 6)]) hx hb dX4_mostBy_118 hl (k := 0) rfl (by decide +kernel) (by decide) rfl (fun ls hl => ?_)
    refine lv_goto (tgt := 7) hx hb dX4_mostBy_121 (by decide) ?_
    refine lv_iload hx hb dX4_mostBy_7 (lv_at hl 0 rfl) ?_
    refine lv_iload_n hx hb dX4_mostBy_9 rfl (lv_at hl 6 rfl) ?_
    refine lv_iconst (v := 1) hx hb dX4_mostBy_10 (by decide +kernel) ?_
    refine lv_iadd hx hb dX4_mostBy_11 ?_
    refine k_int (v := 7) (by decide +kernel) ?_
    refine lv_aload_n hx hb dX4_mostBy_12 rfl (lv_at hl 5 rfl) ?_
    refine k_get (D := (dC, dI)) (ci := 4) (v := .int 1) (C := RX4) (T := TX4) (N := 6) hx hb hts hinX4 hown hK hP 1 rfl rfl 4 (by decide) w_0 rfl rfl dX4_mostBy_13 ?_
    refine lv_imul hx hb dX4_mostBy_16 ?_
    refine k_int (v := 7) (by decide +kernel) ?_
    refine lv_icmp_ge (tgt := 124) hx hb dX4_mostBy_17 (by decide) (fun q9 => absurd q9 (by decide +kernel)) (fun _ => ?_)
    refine lv_iload hx hb dX4_mostBy_20 (lv_at hl 0 rfl) ?_
    refine lv_aload_n hx hb dX4_mostBy_22 rfl (lv_at hl 5 rfl) ?_
    refine k_get (D := (dC, dI)) (ci := 4) (v := .ref (p0 1)) (C := RX4) (T := TX4) (N := 6) hx hb hts hinX4 hown hK hP 1 rfl rfl 0 (by decide) w_1 rfl rfl dX4_mostBy_23 ?_
    refine va_alen (v := 9216) hx hb hK hP 0 0 rfl rfl rfl dX4_mostBy_26 ?_
    refine lv_icmp_ge (tgt := 124) hx hb dX4_mostBy_27 (by decide) (fun q9 => absurd q9 (by decide +kernel)) (fun _ => ?_)
    refine lv_aload_n hx hb dX4_mostBy_30 rfl (lv_at hl 5 rfl) ?_
    refine k_get (D := (dC, dI)) (ci := 4) (v := .ref (p0 1)) (C := RX4) (T := TX4) (N := 6) hx hb hts hinX4 hown hK hP 1 rfl rfl 0 (by decide) w_1 rfl rfl dX4_mostBy_31 ?_
    refine lv_iload hx hb dX4_mostBy_34 (lv_at hl 0 rfl) ?_
    refine k_iald (v := 2147483647) hx hb hK hP 0 0 6 rfl rfl rfl (Nat.le_of_ble_eq_true rfl) (Nat.le_of_ble_eq_true rfl) rfl dX4_mostBy_36 ?_
    refine lv_ldc (v := 2147483647) hx hb hown w_2 dX4_mostBy_37 ?_
    refine lv_icmp_ne (tgt := 45) hx hb dX4_mostBy_39 (by decide) (fun q9 => absurd q9 (by decide +kernel)) (fun _ => ?_)
    refine lv_goto (tgt := 118) hx hb dX4_mostBy_42 (by decide) ?_
    refine lv_iinc (v := 7) (lv' := [(4, .int 7), (3, .int 0), (2, .int 0), (6, .int 0), (5, .int 0), (0, .ref (p0 0)), (1, .int 6)]) hx hb dX4_mostBy_118 hl (k := 0) rfl (by decide +kernel) (by decide) rfl (fun ls hl => ?_)
    refine lv_goto (tgt := 7) hx hb dX4_mostBy_121 (by decide) ?_
    refine lv_iload hx hb dX4_mostBy_7 (lv_at hl 0 rfl) ?_
    refine lv_iload_n hx hb dX4_mostBy_9 rfl (lv_at hl 6 rfl) ?_
    refine lv_iconst (v := 1) hx hb dX4_mostBy_10 (by decide +kernel) ?_
    refine lv_iadd hx hb dX4_mostBy_11 ?_
    refine k_int (v := 7) (by decide +kernel) ?_
    refine lv_aload_n hx hb dX4_mostBy_12 rfl (lv_at hl 5 rfl) ?_
    refine k_get (D := (dC, dI)) (ci := 4) (v := .int 1) (C := RX4) (T := TX4) (N := 6) hx hb hts hinX4 hown hK hP 1 rfl rfl 4 (by decide) w_0 rfl rfl dX4_mostBy_13 ?_
    refine lv_imul hx hb dX4_mostBy_16 ?_
    refine k_int (v := 7) (by decide +kernel) ?_
    refine lv_icmp_ge (tgt := 124) hx hb dX4_mostBy_17 (by decide) (fun _ => ?_) (fun q9 => absurd q9 (by decide +kernel))
    refine lv_iload_n hx hb dX4_mostBy_124 rfl (lv_at hl 2 rfl) ?_
    exact k_ri B hP hD hS dX4_mostBy_125 () [1, 0, 2] rfl rfl rfl (Nat.le_of_ble_eq_true rfl) (Nat.le_of_ble_eq_true rfl) rfl
  · obtain rfl : p1 = 7 := k_eqL (by decide +kernel) c_1
    refine lv_iconst (v := (-1)) hx hb dX4_mostBy_0 (by decide +kernel) ?_
    refine lv_istore_n (lv' := [(2, .int (-1)), (0, .ref (p0 0)), (1, .int 7)]) hx hb dX4_mostBy_1 rfl hl (by decide) rfl (fun ls hl => ?_)
    refine lv_iconst (v := (-1)) hx hb dX4_mostBy_2 (by decide +kernel) ?_
    refine lv_istore_n (lv' := [(3, .int (-1)), (2, .int (-1)), (0, .ref (p0 0)), (1, .int 7)]) hx hb dX4_mostBy_3 rfl hl (by decide) rfl (fun ls hl => ?_)
    refine lv_iconst (v := 0) hx hb dX4_mostBy_4 (by decide +kernel) ?_
    refine lv_istore (lv' := [(4, .int 0), (3, .int (-1)), (2, .int (-1)), (0, .ref (p0 0)), (1, .int 7)]) hx hb dX4_mostBy_5 hl (by decide) rfl (fun ls hl => ?_)
    refine lv_iload hx hb dX4_mostBy_7 (lv_at hl 0 rfl) ?_
    refine lv_iload_n hx hb dX4_mostBy_9 rfl (lv_at hl 4 rfl) ?_
    refine lv_iconst (v := 1) hx hb dX4_mostBy_10 (by decide +kernel) ?_
    refine lv_iadd hx hb dX4_mostBy_11 ?_
    refine k_int (v := 8) (by decide +kernel) ?_
    refine lv_aload_n hx hb dX4_mostBy_12 rfl (lv_at hl 3 rfl) ?_
    refine k_get (D := (dC, dI)) (ci := 4) (v := .int 1) (C := RX4) (T := TX4) (N := 6) hx hb hts hinX4 hown hK hP 0 rfl rfl 4 (by decide) w_0 rfl rfl dX4_mostBy_13 ?_
    refine lv_imul hx hb dX4_mostBy_16 ?_
    refine k_int (v := 8) (by decide +kernel) ?_
    refine lv_icmp_ge (tgt := 124) hx hb dX4_mostBy_17 (by decide) (fun q9 => absurd q9 (by decide +kernel)) (fun _ => ?_)
    refine lv_iload hx hb dX4_mostBy_20 (lv_at hl 0 rfl) ?_
    refine lv_aload_n hx hb dX4_mostBy_22 rfl (lv_at hl 3 rfl) ?_
    refine k_get (D := (dC, dI)) (ci := 4) (v := .ref (p0 1)) (C := RX4) (T := TX4) (N := 6) hx hb hts hinX4 hown hK hP 0 rfl rfl 0 (by decide) w_1 rfl rfl dX4_mostBy_23 ?_
    refine va_alen (v := 9216) hx hb hK hP 1 0 rfl rfl rfl dX4_mostBy_26 ?_
    refine lv_icmp_ge (tgt := 124) hx hb dX4_mostBy_27 (by decide) (fun q9 => absurd q9 (by decide +kernel)) (fun _ => ?_)
    refine lv_aload_n hx hb dX4_mostBy_30 rfl (lv_at hl 3 rfl) ?_
    refine k_get (D := (dC, dI)) (ci := 4) (v := .ref (p0 1)) (C := RX4) (T := TX4) (N := 6) hx hb hts hinX4 hown hK hP 0 rfl rfl 0 (by decide) w_1 rfl rfl dX4_mostBy_31 ?_
    refine lv_iload hx hb dX4_mostBy_34 (lv_at hl 0 rfl) ?_
    refine k_iald (v := 0) hx hb hK hP 1 0 0 rfl rfl rfl (Nat.le_of_ble_eq_true rfl) (Nat.le_of_ble_eq_true rfl) rfl dX4_mostBy_36 ?_
    refine lv_ldc (v := 2147483647) hx hb hown w_2 dX4_mostBy_37 ?_
    refine lv_icmp_ne (tgt := 45) hx hb dX4_mostBy_39 (by decide) (fun _ => ?_) (fun q9 => absurd q9 (by decide +kernel))
    refine lv_aload_n hx hb dX4_mostBy_45 rfl (lv_at hl 3 rfl) ?_
    refine k_get (D := (dC, dI)) (ci := 4) (v := .ref (p2 1)) (C := RX4) (T := TX4) (N := 6) hx hb hts hinX4 hown hK hP 0 rfl rfl 3 (by decide) w_3 rfl rfl dX4_mostBy_46 ?_
    refine lv_aload_n hx hb dX4_mostBy_49 rfl (lv_at hl 3 rfl) ?_
    refine lv_iload hx hb dX4_mostBy_50 (lv_at hl 0 rfl) ?_
    refine k_ci (wc := [((p0 0), .inr (4, [.ref (p0 1), .ref (p0 2), .ref (p0 3), .ref (p2 1), .int 1, .int 1]))]) (wr := [((p0 1), .inl (cI, 9216, .inl (upd (fun k => if 0 ≤ k ∧ k < 9 then 2147483647 else 0) 0 0))), ((p2 1), .inr (5, [.ref (p2 2), .ref (p2 3), .ref (p2 4), .ref (p2 5), .ref (p2 6), .ref (p2 7), .ref (p2 8), .ref (p2 9), .ref (p2 10), .ref (p2 11), .ref (p2 12), .ref (p2 13), .int 0, .int 0, .int 0, .int 0, .int 0, .int 100, .int 0, .int 0]))]) (fun hPc hDc hFc => va_runV (As := [.int 0]) (rest := [.ref (p2 1)]) ⟨hx, hb, hml, hown, hts⟩ (c_X4_setOf_v0 l dC dI cI cJ cZ cM p0 p2 H.size) (cwV 1 hts gX4_mostBy_X4_setOf rfl rfl rfl (by decide +kernel) ⟨(Nat.le_of_ble_eq_true rfl), (Nat.le_of_ble_eq_true rfl)⟩) (k_pV hPc hDc hK hN hC hS hFc hP (q0 := 0) (ci := 4) rfl rfl) rfl rfl hl.1 rfl (lv_room (Nat.le_of_ble_eq_true rfl)) dX4_mostBy_52 ⟨(Nat.le_of_ble_eq_true rfl), (Nat.le_of_ble_eq_true rfl)⟩) hP hD hS hA [0] [1, 2] rfl rfl rfl rfl (by decide) (fun _ => rfl) 0 0 rfl rfl (fun r_30 u_31 H locs hw hP hD hS => ?_)
    obtain rfl : r_30 = 0 := hw
    have hP : va_P (dC, dI) vwCl [((p0 1), .inl (cI, 9216, .inl (upd (fun k => if 0 ≤ k ∧ k < 9 then 2147483647 else 0) 0 0))), ((p2 1), .inr (5, [.ref (p2 2), .ref (p2 3), .ref (p2 4), .ref (p2 5), .ref (p2 6), .ref (p2 7), .ref (p2 8), .ref (p2 9), .ref (p2 10), .ref (p2 11), .ref (p2 12), .ref (p2 13), .int 0, .int 0, .int 0, .int 0, .int 0, .int 100, .int 0, .int 0])), ((p0 0), .inr (4, [.ref (p0 1), .ref (p0 2), .ref (p0 3), .ref (p2 1), .int 1, .int 1]))] H := hP
    have hD : va_D A [((p0 1), .inl (cI, 9216, .inl (upd (fun k => if 0 ≤ k ∧ k < 9 then 2147483647 else 0) 0 0))), ((p2 1), .inr (5, [.ref (p2 2), .ref (p2 3), .ref (p2 4), .ref (p2 5), .ref (p2 6), .ref (p2 7), .ref (p2 8), .ref (p2 9), .ref (p2 10), .ref (p2 11), .ref (p2 12), .ref (p2 13), .int 0, .int 0, .int 0, .int 0, .int 0, .int 100, .int 0, .int 0])), ((p0 0), .inr (4, [.ref (p0 1), .ref (p0 2), .ref (p0 3), .ref (p2 1), .int 1, .int 1]))] := hD
    refine k_ci (wc := [((p2 1), .inr (5, [.ref (p2 2), .ref (p2 3), .ref (p2 4), .ref (p2 5), .ref (p2 6), .ref (p2 7), .ref (p2 8), .ref (p2 9), .ref (p2 10), .ref (p2 11), .ref (p2 12), .ref (p2 13), .int 0, .int 0, .int 0, .int 0, .int 0, .int 100, .int 0, .int 0]))]) (wr := [((p0 1), .inl (cI, 9216, .inl (upd (fun k => if 0 ≤ k ∧ k < 9 then 2147483647 else 0) 0 0))), ((p0 0), .inr (4, [.ref (p0 1), .ref (p0 2), .ref (p0 3), .ref (p2 1), .int 1, .int 1]))]) (fun hPc hDc hFc => va_runV (As := [.int 0]) (rest := []) ⟨hx, hb, hml, hown, hts⟩ (c_X5_lastingWorthOf_v0 l dC dI cI cJ cZ cM p2 H.size) (cwV 1 hts gX4_mostBy_X5_lastingWorthOf rfl rfl rfl (by decide +kernel) ⟨(Nat.le_of_ble_eq_true rfl), (Nat.le_of_ble_eq_true rfl)⟩) (k_pV hPc hDc hK hN hC hS hFc hP (q0 := 1) (ci := 5) rfl rfl) rfl rfl hl.1 rfl (lv_room (Nat.le_of_ble_eq_true rfl)) dX4_mostBy_55 ⟨(Nat.le_of_ble_eq_true rfl), (Nat.le_of_ble_eq_true rfl)⟩) hP hD hS hA [1] [0, 2] rfl rfl rfl rfl (by decide) (fun _ => rfl) 0 0 rfl rfl (fun r_32 u_33 H locs hw hP hD hS => ?_)
    obtain rfl : r_32 = 0 := hw
    have hP : va_P (dC, dI) vwCl [((p0 1), .inl (cI, 9216, .inl (upd (fun k => if 0 ≤ k ∧ k < 9 then 2147483647 else 0) 0 0))), ((p0 0), .inr (4, [.ref (p0 1), .ref (p0 2), .ref (p0 3), .ref (p2 1), .int 1, .int 1])), ((p2 1), .inr (5, [.ref (p2 2), .ref (p2 3), .ref (p2 4), .ref (p2 5), .ref (p2 6), .ref (p2 7), .ref (p2 8), .ref (p2 9), .ref (p2 10), .ref (p2 11), .ref (p2 12), .ref (p2 13), .int 0, .int 0, .int 0, .int 0, .int 0, .int 100, .int 0, .int 0]))] H := hP
    have hD : va_D A [((p0 1), .inl (cI, 9216, .inl (upd (fun k => if 0 ≤ k ∧ k < 9 then 2147483647 else 0) 0 0))), ((p0 0), .inr (4, [.ref (p0 1), .ref (p0 2), .ref (p0 3), .ref (p2 1), .int 1, .int 1])), ((p2 1), .inr (5, [.ref (p2 2), .ref (p2 3), .ref (p2 4), .ref (p2 5), .ref (p2 6), .ref (p2 7), .ref (p2 8), .ref (p2 9), .ref (p2 10), .ref (p2 11), .ref (p2 12), .ref (p2 13), .int 0, .int 0, .int 0, .int 0, .int 0, .int 100, .int 0, .int 0]))] := hD
    refine lv_istore (lv' := [(5, .int 0), (4, .int 0), (3, .int (-1)), (2, .int (-1)), (0, .ref (p0 0)), (1, .int 7)]) hx hb dX4_mostBy_58 hl (by decide) rfl (fun ls hl => ?_)
    refine lv_iload hx hb dX4_mostBy_60 (lv_at hl 0 rfl) ?_
    refine lv_iload_n hx hb dX4_mostBy_62 rfl (lv_at hl 2 rfl) ?_
    refine lv_icmp_ne (tgt := 84) hx hb dX4_mostBy_63 (by decide) (fun _ => ?_) (fun q9 => absurd q9 (by decide +kernel))
    refine lv_iconst (v := 0) hx hb dX4_mostBy_84 (by decide +kernel) ?_
    refine lv_istore (lv' := [(6, .int 0), (5, .int 0), (4, .int 0), (3, .int (-1)), (2, .int (-1)), (0, .ref (p0 0)), (1, .int 7)]) hx hb dX4_mostBy_85 hl (by decide) rfl (fun ls hl => ?_)
    refine lv_iload hx hb dX4_mostBy_87 (lv_at hl 1 rfl) ?_
    refine lv_iload_n hx hb dX4_mostBy_89 rfl (lv_at hl 3 rfl) ?_
    refine lv_icmp_gt (tgt := 112) hx hb dX4_mostBy_90 (by decide) (fun _ => ?_) (fun q9 => absurd q9 (by decide +kernel))
    refine lv_iload hx hb dX4_mostBy_112 (lv_at hl 2 rfl) ?_
    refine lv_istore_n (lv' := [(2, .int 0), (6, .int 0), (5, .int 0), (4, .int 0), (3, .int (-1)), (0, .ref (p0 0)), (1, .int 7)]) hx hb dX4_mostBy_114 rfl hl (by decide) rfl (fun ls hl => ?_)
    refine lv_iload hx hb dX4_mostBy_115 (lv_at hl 2 rfl) ?_
    refine lv_istore_n (lv' := [(3, .int 0), (2, .int 0), (6, .int 0), (5, .int 0), (4, .int 0), (0, .ref (p0 0)), (1, .int 7)]) hx hb dX4_mostBy_117 rfl hl (by decide) rfl (fun ls hl => ?_)
    refine lv_iinc (v := 1) (lv' := [(4, .int 1), (3, .int 0), (2, .int 0), (6, .int 0), (5, .int 0), (0, .ref (p0 0)), (1, .int 7)]) hx hb dX4_mostBy_118 hl (k := 4) rfl (by decide +kernel) (by decide) rfl (fun ls hl => ?_)
    refine lv_goto (tgt := 7) hx hb dX4_mostBy_121 (by decide) ?_
    refine lv_iload hx hb dX4_mostBy_7 (lv_at hl 0 rfl) ?_
    refine lv_iload_n hx hb dX4_mostBy_9 rfl (lv_at hl 6 rfl) ?_
    refine lv_iconst (v := 1) hx hb dX4_mostBy_10 (by decide +kernel) ?_
    refine lv_iadd hx hb dX4_mostBy_11 ?_
    refine k_int (v := 8) (by decide +kernel) ?_
    refine lv_aload_n hx hb dX4_mostBy_12 rfl (lv_at hl 5 rfl) ?_
    refine k_get (D := (dC, dI)) (ci := 4) (v := .int 1) (C := RX4) (T := TX4) (N := 6) hx hb hts hinX4 hown hK hP 1 rfl rfl 4 (by decide) w_0 rfl rfl dX4_mostBy_13 ?_
    refine lv_imul hx hb dX4_mostBy_16 ?_
    refine k_int (v := 8) (by decide +kernel) ?_
    refine lv_icmp_ge (tgt := 124) hx hb dX4_mostBy_17 (by decide) (fun q9 => absurd q9 (by decide +kernel)) (fun _ => ?_)
    refine lv_iload hx hb dX4_mostBy_20 (lv_at hl 0 rfl) ?_
    refine lv_aload_n hx hb dX4_mostBy_22 rfl (lv_at hl 5 rfl) ?_
    refine k_get (D := (dC, dI)) (ci := 4) (v := .ref (p0 1)) (C := RX4) (T := TX4) (N := 6) hx hb hts hinX4 hown hK hP 1 rfl rfl 0 (by decide) w_1 rfl rfl dX4_mostBy_23 ?_
    refine va_alen (v := 9216) hx hb hK hP 0 0 rfl rfl rfl dX4_mostBy_26 ?_
    refine lv_icmp_ge (tgt := 124) hx hb dX4_mostBy_27 (by decide) (fun q9 => absurd q9 (by decide +kernel)) (fun _ => ?_)
    refine lv_aload_n hx hb dX4_mostBy_30 rfl (lv_at hl 5 rfl) ?_
    refine k_get (D := (dC, dI)) (ci := 4) (v := .ref (p0 1)) (C := RX4) (T := TX4) (N := 6) hx hb hts hinX4 hown hK hP 1 rfl rfl 0 (by decide) w_1 rfl rfl dX4_mostBy_31 ?_
    refine lv_iload hx hb dX4_mostBy_34 (lv_at hl 0 rfl) ?_
    refine k_iald (v := 2147483647) hx hb hK hP 0 0 1 rfl rfl rfl (Nat.le_of_ble_eq_true rfl) (Nat.le_of_ble_eq_true rfl) rfl dX4_mostBy_36 ?_
    refine lv_ldc (v := 2147483647) hx hb hown w_2 dX4_mostBy_37 ?_
    refine lv_icmp_ne (tgt := 45) hx hb dX4_mostBy_39 (by decide) (fun q9 => absurd q9 (by decide +kernel)) (fun _ => ?_)
    refine lv_goto (tgt := 118) hx hb dX4_mostBy_42 (by decide) ?_
    refine lv_iinc (v := 2) (lv' := [(4, .int 2), (3, .int 0), (2, .int 0), (6, .int 0), (5, .int 0), (0, .ref (p0 0)), (1, .int 7)]) hx hb dX4_mostBy_118 hl (k := 0) rfl (by decide +kernel) (by decide) rfl (fun ls hl => ?_)
    refine lv_goto (tgt := 7) hx hb dX4_mostBy_121 (by decide) ?_
    refine lv_iload hx hb dX4_mostBy_7 (lv_at hl 0 rfl) ?_
    refine lv_iload_n hx hb dX4_mostBy_9 rfl (lv_at hl 6 rfl) ?_
    refine lv_iconst (v := 1) hx hb dX4_mostBy_10 (by decide +kernel) ?_
    refine lv_iadd hx hb dX4_mostBy_11 ?_
    refine k_int (v := 8) (by decide +kernel) ?_
    refine lv_aload_n hx hb dX4_mostBy_12 rfl (lv_at hl 5 rfl) ?_
    refine k_get (D := (dC, dI)) (ci := 4) (v := .int 1) (C := RX4) (T := TX4) (N := 6) hx hb hts hinX4 hown hK hP 1 rfl rfl 4 (by decide) w_0 rfl rfl dX4_mostBy_13 ?_
    refine lv_imul hx hb dX4_mostBy_16 ?_
    refine k_int (v := 8) (by decide +kernel) ?_
    refine lv_icmp_ge (tgt := 124) hx hb dX4_mostBy_17 (by decide) (fun q9 => absurd q9 (by decide +kernel)) (fun _ => ?_)
    refine lv_iload hx hb dX4_mostBy_20 (lv_at hl 0 rfl) ?_
    refine lv_aload_n hx hb dX4_mostBy_22 rfl (lv_at hl 5 rfl) ?_
    refine k_get (D := (dC, dI)) (ci := 4) (v := .ref (p0 1)) (C := RX4) (T := TX4) (N := 6) hx hb hts hinX4 hown hK hP 1 rfl rfl 0 (by decide) w_1 rfl rfl dX4_mostBy_23 ?_
    refine va_alen (v := 9216) hx hb hK hP 0 0 rfl rfl rfl dX4_mostBy_26 ?_
    refine lv_icmp_ge (tgt := 124) hx hb dX4_mostBy_27 (by decide) (fun q9 => absurd q9 (by decide +kernel)) (fun _ => ?_)
    refine lv_aload_n hx hb dX4_mostBy_30 rfl (lv_at hl 5 rfl) ?_
    refine k_get (D := (dC, dI)) (ci := 4) (v := .ref (p0 1)) (C := RX4) (T := TX4) (N := 6) hx hb hts hinX4 hown hK hP 1 rfl rfl 0 (by decide) w_1 rfl rfl dX4_mostBy_31 ?_
    refine lv_iload hx hb dX4_mostBy_34 (lv_at hl 0 rfl) ?_
    refine k_iald (v := 2147483647) hx hb hK hP 0 0 2 rfl rfl rfl (Nat.le_of_ble_eq_true rfl) (Nat.le_of_ble_eq_true rfl) rfl dX4_mostBy_36 ?_
    refine lv_ldc (v := 2147483647) hx hb hown w_2 dX4_mostBy_37 ?_
    refine lv_icmp_ne (tgt := 45) hx hb dX4_mostBy_39 (by decide) (fun q9 => absurd q9 (by decide +kernel)) (fun _ => ?_)
    refine lv_goto (tgt := 118) hx hb dX4_mostBy_42 (by decide) ?_
    refine lv_iinc (v := 3) (lv' := [(4, .int 3), (3, .int 0), (2, .int 0), (6, .int 0), (5, .int 0), (0, .ref (p0 0)), (1, .int 7)]) hx hb dX4_mostBy_118 hl (k := 0) rfl (by decide +kernel) (by decide) rfl (fun ls hl => ?_)
    refine lv_goto (tgt := 7) hx hb dX4_mostBy_121 (by decide) ?_
    refine lv_iload hx hb dX4_mostBy_7 (lv_at hl 0 rfl) ?_
    refine lv_iload_n hx hb dX4_mostBy_9 rfl (lv_at hl 6 rfl) ?_
    refine lv_iconst (v := 1) hx hb dX4_mostBy_10 (by decide +kernel) ?_
    refine lv_iadd hx hb dX4_mostBy_11 ?_
    refine k_int (v := 8) (by decide +kernel) ?_
    refine lv_aload_n hx hb dX4_mostBy_12 rfl (lv_at hl 5 rfl) ?_
    refine k_get (D := (dC, dI)) (ci := 4) (v := .int 1) (C := RX4) (T := TX4) (N := 6) hx hb hts hinX4 hown hK hP 1 rfl rfl 4 (by decide) w_0 rfl rfl dX4_mostBy_13 ?_
    refine lv_imul hx hb dX4_mostBy_16 ?_
    refine k_int (v := 8) (by decide +kernel) ?_
    refine lv_icmp_ge (tgt := 124) hx hb dX4_mostBy_17 (by decide) (fun q9 => absurd q9 (by decide +kernel)) (fun _ => ?_)
    refine lv_iload hx hb dX4_mostBy_20 (lv_at hl 0 rfl) ?_
    refine lv_aload_n hx hb dX4_mostBy_22 rfl (lv_at hl 5 rfl) ?_
    refine k_get (D := (dC, dI)) (ci := 4) (v := .ref (p0 1)) (C := RX4) (T := TX4) (N := 6) hx hb hts hinX4 hown hK hP 1 rfl rfl 0 (by decide) w_1 rfl rfl dX4_mostBy_23 ?_
    refine va_alen (v := 9216) hx hb hK hP 0 0 rfl rfl rfl dX4_mostBy_26 ?_
    refine lv_icmp_ge (tgt := 124) hx hb dX4_mostBy_27 (by decide) (fun q9 => absurd q9 (by decide +kernel)) (fun _ => ?_)
    refine lv_aload_n hx hb dX4_mostBy_30 rfl (lv_at hl 5 rfl) ?_
    refine k_get (D := (dC, dI)) (ci := 4) (v := .ref (p0 1)) (C := RX4) (T := TX4) (N := 6) hx hb hts hinX4 hown hK hP 1 rfl rfl 0 (by decide) w_1 rfl rfl dX4_mostBy_31 ?_
    refine lv_iload hx hb dX4_mostBy_34 (lv_at hl 0 rfl) ?_
    refine k_iald (v := 2147483647) hx hb hK hP 0 0 3 rfl rfl rfl (Nat.le_of_ble_eq_true rfl) (Nat.le_of_ble_eq_true rfl) rfl dX4_mostBy_36 ?_
    refine lv_ldc (v := 2147483647) hx hb hown w_2 dX4_mostBy_37 ?_
    refine lv_icmp_ne (tgt := 45) hx hb dX4_mostBy_39 (by decide) (fun q9 => absurd q9 (by decide +kernel)) (fun _ => ?_)
    refine lv_goto (tgt := 118) hx hb dX4_mostBy_42 (by decide) ?_
    refine lv_iinc (v := 4) (lv' := [(4, .int 4), (3, .int 0), (2, .int 0), (6, .int 0), (5, .int 0), (0, .ref (p0 0)), (1, .int 7)]) hx hb dX4_mostBy_118 hl (k := 0) rfl (by decide +kernel) (by decide) rfl (fun ls hl => ?_)
    refine lv_goto (tgt := 7) hx hb dX4_mostBy_121 (by decide) ?_
    refine lv_iload hx hb dX4_mostBy_7 (lv_at hl 0 rfl) ?_
    refine lv_iload_n hx hb dX4_mostBy_9 rfl (lv_at hl 6 rfl) ?_
    refine lv_iconst (v := 1) hx hb dX4_mostBy_10 (by decide +kernel) ?_
    refine lv_iadd hx hb dX4_mostBy_11 ?_
    refine k_int (v := 8) (by decide +kernel) ?_
    refine lv_aload_n hx hb dX4_mostBy_12 rfl (lv_at hl 5 rfl) ?_
    refine k_get (D := (dC, dI)) (ci := 4) (v := .int 1) (C := RX4) (T := TX4) (N := 6) hx hb hts hinX4 hown hK hP 1 rfl rfl 4 (by decide) w_0 rfl rfl dX4_mostBy_13 ?_
    refine lv_imul hx hb dX4_mostBy_16 ?_
    refine k_int (v := 8) (by decide +kernel) ?_
    refine lv_icmp_ge (tgt := 124) hx hb dX4_mostBy_17 (by decide) (fun q9 => absurd q9 (by decide +kernel)) (fun _ => ?_)
    refine lv_iload hx hb dX4_mostBy_20 (lv_at hl 0 rfl) ?_
    refine lv_aload_n hx hb dX4_mostBy_22 rfl (lv_at hl 5 rfl) ?_
    refine k_get (D := (dC, dI)) (ci := 4) (v := .ref (p0 1)) (C := RX4) (T := TX4) (N := 6) hx hb hts hinX4 hown hK hP 1 rfl rfl 0 (by decide) w_1 rfl rfl dX4_mostBy_23 ?_
    refine va_alen (v := 9216) hx hb hK hP 0 0 rfl rfl rfl dX4_mostBy_26 ?_
    refine lv_icmp_ge (tgt := 124) hx hb dX4_mostBy_27 (by decide) (fun q9 => absurd q9 (by decide +kernel)) (fun _ => ?_)
    refine lv_aload_n hx hb dX4_mostBy_30 rfl (lv_at hl 5 rfl) ?_
    refine k_get (D := (dC, dI)) (ci := 4) (v := .ref (p0 1)) (C := RX4) (T := TX4) (N := 6) hx hb hts hinX4 hown hK hP 1 rfl rfl 0 (by decide) w_1 rfl rfl dX4_mostBy_31 ?_
    refine lv_iload hx hb dX4_mostBy_34 (lv_at hl 0 rfl) ?_
    refine k_iald (v := 2147483647) hx hb hK hP 0 0 4 rfl rfl rfl (Nat.le_of_ble_eq_true rfl) (Nat.le_of_ble_eq_true rfl) rfl dX4_mostBy_36 ?_
    refine lv_ldc (v := 2147483647) hx hb hown w_2 dX4_mostBy_37 ?_
    refine lv_icmp_ne (tgt := 45) hx hb dX4_mostBy_39 (by decide) (fun q9 => absurd q9 (by decide +kernel)) (fun _ => ?_)
    refine lv_goto (tgt := 118) hx hb dX4_mostBy_42 (by decide) ?_
    refine lv_iinc (v := 5) (lv' := [(4, .int 5), (3, .int 0), (2, .int 0), (6, .int 0), (5, .int 0), (0, .ref (p0 0)), (1, .int 7)]) hx hb dX4_mostBy_118 hl (k := 0) rfl (by decide +kernel) (by decide) rfl (fun ls hl => ?_)
    refine lv_goto (tgt := 7) hx hb dX4_mostBy_121 (by decide) ?_
    refine lv_iload hx hb dX4_mostBy_7 (lv_at hl 0 rfl) ?_
    refine lv_iload_n hx hb dX4_mostBy_9 rfl (lv_at hl 6 rfl) ?_
    refine lv_iconst (v := 1) hx hb dX4_mostBy_10 (by decide +kernel) ?_
    refine lv_iadd hx hb dX4_mostBy_11 ?_
    refine k_int (v := 8) (by decide +kernel) ?_
    refine lv_aload_n hx hb dX4_mostBy_12 rfl (lv_at hl 5 rfl) ?_
    refine k_get (D := (dC, dI)) (ci := 4) (v := .int 1) (C := RX4) (T := TX4) (N := 6) hx hb hts hinX4 hown hK hP 1 rfl rfl 4 (by decide) w_0 rfl rfl dX4_mostBy_13 ?_
    refine lv_imul hx hb dX4_mostBy_16 ?_
    refine k_int (v := 8) (by decide +kernel) ?_
    refine lv_icmp_ge (tgt := 124) hx hb dX4_mostBy_17 (by decide) (fun q9 => absurd q9 (by decide +kernel)) (fun _ => ?_)
    refine lv_iload hx hb dX4_mostBy_20 (lv_at hl 0 rfl) ?_
    refine lv_aload_n hx hb dX4_mostBy_22 rfl (lv_at hl 5 rfl) ?_
    refine k_get (D := (dC, dI)) (ci := 4) (v := .ref (p0 1)) (C := RX4) (T := TX4) (N := 6) hx hb hts hinX4 hown hK hP 1 rfl rfl 0 (by decide) w_1 rfl rfl dX4_mostBy_23 ?_
    refine va_alen (v := 9216) hx hb hK hP 0 0 rfl rfl rfl dX4_mostBy_26 ?_
    refine lv_icmp_ge (tgt := 124) hx hb dX4_mostBy_27 (by decide) (fun q9 => absurd q9 (by decide +kernel)) (fun _ => ?_)
    refine lv_aload_n hx hb dX4_mostBy_30 rfl (lv_at hl 5 rfl) ?_
    refine k_get (D := (dC, dI)) (ci := 4) (v := .ref (p0 1)) (C := RX4) (T := TX4) (N := 6) hx hb hts hinX4 hown hK hP 1 rfl rfl 0 (by decide) w_1 rfl rfl dX4_mostBy_31 ?_
    refine lv_iload hx hb dX4_mostBy_34 (lv_at hl 0 rfl) ?_
    refine k_iald (v := 2147483647) hx hb hK hP 0 0 5 rfl rfl rfl (Nat.le_of_ble_eq_true rfl) (Nat.le_of_ble_eq_true rfl) rfl dX4_mostBy_36 ?_
    refine lv_ldc (v := 2147483647) hx hb hown w_2 dX4_mostBy_37 ?_
    refine lv_icmp_ne (tgt := 45) hx hb dX4_mostBy_39 (by decide) (fun q9 => absurd q9 (by decide +kernel)) (fun _ => ?_)
    refine lv_goto (tgt := 118) hx hb dX4_mostBy_42 (by decide) ?_
    refine lv_iinc (v := 6) (lv' := [(4, .int 6), (3, .int 0), (2, .int 0), (6, .int 0), (5, .int 0), (0, .ref (p0 0)), (1, .int 7)]) hx hb dX4_mostBy_118 hl (k := 0) rfl (by decide +kernel) (by decide) rfl (fun ls hl => ?_)
    refine lv_goto (tgt := 7) hx hb dX4_mostBy_121 (by decide) ?_
    refine lv_iload hx hb dX4_mostBy_7 (lv_at hl 0 rfl) ?_
    refine lv_iload_n hx hb dX4_mostBy_9 rfl (lv_at hl 6 rfl) ?_
    refine lv_iconst (v := 1) hx hb dX4_mostBy_10 (by decide +kernel) ?_
    refine lv_iadd hx hb dX4_mostBy_11 ?_
    refine k_int (v := 8) (by decide +kernel) ?_
    refine lv_aload_n hx hb dX4_mostBy_12 rfl (lv_at hl 5 rfl) ?_
    refine k_get (D := (dC, dI)) (ci := 4) (v := .int 1) (C := RX4) (T := TX4) (N := 6) hx hb hts hinX4 hown hK hP 1 rfl rfl 4 (by decide) w_0 rfl rfl dX4_mostBy_13 ?_
    refine lv_imul hx hb dX4_mostBy_16 ?_
    refine k_int (v := 8) (by decide +kernel) ?_
    refine lv_icmp_ge (tgt := 124) hx hb dX4_mostBy_17 (by decide) (fun q9 => absurd q9 (by decide +kernel)) (fun _ => ?_)
    refine lv_iload hx hb dX4_mostBy_20 (lv_at hl 0 rfl) ?_
    refine lv_aload_n hx hb dX4_mostBy_22 rfl (lv_at hl 5 rfl) ?_
    refine k_get (D := (dC, dI)) (ci := 4) (v := .ref (p0 1)) (C := RX4) (T := TX4) (N := 6) hx hb hts hinX4 hown hK hP 1 rfl rfl 0 (by decide) w_1 rfl rfl dX4_mostBy_23 ?_
    refine va_alen (v := 9216) hx hb hK hP 0 0 rfl rfl rfl dX4_mostBy_26 ?_
    refine lv_icmp_ge (tgt := 124) hx hb dX4_mostBy_27 (by decide) (fun q9 => absurd q9 (by decide +kernel)) (fun _ => ?_)
    refine lv_aload_n hx hb dX4_mostBy_30 rfl (lv_at hl 5 rfl) ?_
    refine k_get (D := (dC, dI)) (ci := 4) (v := .ref (p0 1)) (C := RX4) (T := TX4) (N := 6) hx hb hts hinX4 hown hK hP 1 rfl rfl 0 (by decide) w_1 rfl rfl dX4_mostBy_31 ?_
    refine lv_iload hx hb dX4_mostBy_34 (lv_at hl 0 rfl) ?_
    refine k_iald (v := 2147483647) hx hb hK hP 0 0 6 rfl rfl rfl (Nat.le_of_ble_eq_true rfl) (Nat.le_of_ble_eq_true rfl) rfl dX4_mostBy_36 ?_
    refine lv_ldc (v := 2147483647) hx hb hown w_2 dX4_mostBy_37 ?_
    refine lv_icmp_ne (tgt := 45) hx hb dX4_mostBy_39 (by decide) (fun q9 => absurd q9 (by decide +kernel)) (fun _ => ?_)
    refine lv_goto (tgt := 118) hx hb dX4_mostBy_42 (by decide) ?_
    refine lv_iinc (v := 7) (lv' := [(4, .int 7), (3, .int 0), (2, .int 0), (6, .int 0), (5, .int 0), (0, .ref (p0 0)), (1, .int 7)]) hx hb dX4_mostBy_118 hl (k := 0) rfl (by decide +kernel) (by decide) rfl (fun ls hl => ?_)
    refine lv_goto (tgt := 7) hx hb dX4_mostBy_121 (by decide) ?_
    refine lv_iload hx hb dX4_mostBy_7 (lv_at hl 0 rfl) ?_
    refine lv_iload_n hx hb dX4_mostBy_9 rfl (lv_at hl 6 rfl) ?_
    refine lv_iconst (v := 1) hx hb dX4_mostBy_10 (by decide +kernel) ?_
    refine lv_iadd hx hb dX4_mostBy_11 ?_
    refine k_int (v := 8) (by decide +kernel) ?_
    refine lv_aload_n hx hb dX4_mostBy_12 rfl (lv_at hl 5 rfl) ?_
    refine k_get (D := (dC, dI)) (ci := 4) (v := .int 1) (C := RX4) (T := TX4) (N := 6) hx hb hts hinX4 hown hK hP 1 rfl rfl 4 (by decide) w_0 rfl rfl dX4_mostBy_13 ?_
    refine lv_imul hx hb dX4_mostBy_16 ?_
    refine k_int (v := 8) (by decide +kernel) ?_
    refine lv_icmp_ge (tgt := 124) hx hb dX4_mostBy_17 (by decide) (fun q9 => absurd q9 (by decide +kernel)) (fun _ => ?_)
    refine lv_iload hx hb dX4_mostBy_20 (lv_at hl 0 rfl) ?_
    refine lv_aload_n hx hb dX4_mostBy_22 rfl (lv_at hl 5 rfl) ?_
    refine k_get (D := (dC, dI)) (ci := 4) (v := .ref (p0 1)) (C := RX4) (T := TX4) (N := 6) hx hb hts hinX4 hown hK hP 1 rfl rfl 0 (by decide) w_1 rfl rfl dX4_mostBy_23 ?_
    refine va_alen (v := 9216) hx hb hK hP 0 0 rfl rfl rfl dX4_mostBy_26 ?_
    refine lv_icmp_ge (tgt := 124) hx hb dX4_mostBy_27 (by decide) (fun q9 => absurd q9 (by decide +kernel)) (fun _ => ?_)
    refine lv_aload_n hx hb dX4_mostBy_30 rfl (lv_at hl 5 rfl) ?_
    refine k_get (D := (dC, dI)) (ci := 4) (v := .ref (p0 1)) (C := RX4) (T := TX4) (N := 6) hx hb hts hinX4 hown hK hP 1 rfl rfl 0 (by decide) w_1 rfl rfl dX4_mostBy_31 ?_
    refine lv_iload hx hb dX4_mostBy_34 (lv_at hl 0 rfl) ?_
    refine k_iald (v := 2147483647) hx hb hK hP 0 0 7 rfl rfl rfl (Nat.le_of_ble_eq_true rfl) (Nat.le_of_ble_eq_true rfl) rfl dX4_mostBy_36 ?_
    refine lv_ldc (v := 2147483647) hx hb hown w_2 dX4_mostBy_37 ?_
    refine lv_icmp_ne (tgt := 45) hx hb dX4_mostBy_39 (by decide) (fun q9 => absurd q9 (by decide +kernel)) (fun _ => ?_)
    refine lv_goto (tgt := 118) hx hb dX4_mostBy_42 (by decide) ?_
    refine lv_iinc (v := 8) (lv' := [(4, .int 8), (3, .int 0), (2, .int 0), (6, .int 0), (5, .int 0), (0, .ref (p0 0)), (1, .int 7)]) hx hb dX4_mostBy_118 hl (k := 0) rfl (by decide +kernel) (by decide) rfl (fun ls hl => ?_)
    refine lv_goto (tgt := 7) hx hb dX4_mostBy_121 (by decide) ?_
    refine lv_iload hx hb dX4_mostBy_7 (lv_at hl 0 rfl) ?_
    refine lv_iload_n hx hb dX4_mostBy_9 rfl (lv_at hl 6 rfl) ?_
    refine lv_iconst (v := 1) hx hb dX4_mostBy_10 (by decide +kernel) ?_
    refine lv_iadd hx hb dX4_mostBy_11 ?_
    refine k_int (v := 8) (by decide +kernel) ?_
    refine lv_aload_n hx hb dX4_mostBy_12 rfl (lv_at hl 5 rfl) ?_
    refine k_get (D := (dC, dI)) (ci := 4) (v := .int 1) (C := RX4) (T := TX4) (N := 6) hx hb hts hinX4 hown hK hP 1 rfl rfl 4 (by decide) w_0 rfl rfl dX4_mostBy_13 ?_
    refine lv_imul hx hb dX4_mostBy_16 ?_
    refine k_int (v := 8) (by decide +kernel) ?_
    refine lv_icmp_ge (tgt := 124) hx hb dX4_mostBy_17 (by decide) (fun _ => ?_) (fun q9 => absurd q9 (by decide +kernel))
    refine lv_iload_n hx hb dX4_mostBy_124 rfl (lv_at hl 2 rfl) ?_
    exact k_ri B hP hD hS dX4_mostBy_125 () [1, 0, 2] rfl rfl rfl (Nat.le_of_ble_eq_true rfl) (Nat.le_of_ble_eq_true rfl) rfl
  · obtain rfl : p1 = 8 := k_eqL (by decide +kernel) c_1
    refine lv_iconst (v := (-1)) hx hb dX4_mostBy_0 (by decide +kernel) ?_
    refine lv_istore_n (lv' := [(2, .int (-1)), (0, .ref (p0 0)), (1, .int 8)]) hx hb dX4_mostBy_1 rfl hl (by decide) rfl (fun ls hl => ?_)
    refine lv_iconst (v := (-1)) hx hb dX4_mostBy_2 (by decide +kernel) ?_
    refine lv_istore_n (lv' := [(3, .int (-1)), (2, .int (-1)), (0, .ref (p0 0)), (1, .int 8)]) hx hb dX4_mostBy_3 rfl hl (by decide) rfl (fun ls hl => ?_)
    refine lv_iconst (v := 0) hx hb dX4_mostBy_4 (by decide +kernel) ?_
    refine lv_istore (lv' := [(4, .int 0), (3, .int (-1)), (2, .int (-1)), (0, .ref (p0 0)), (1, .int 8)]) hx hb dX4_mostBy_5 hl (by decide) rfl (fun ls hl => ?_)
    refine lv_iload hx hb dX4_mostBy_7 (lv_at hl 0 rfl) ?_
    refine lv_iload_n hx hb dX4_mostBy_9 rfl (lv_at hl 4 rfl) ?_
    refine lv_iconst (v := 1) hx hb dX4_mostBy_10 (by decide +kernel) ?_
    refine lv_iadd hx hb dX4_mostBy_11 ?_
    refine k_int (v := 9) (by decide +kernel) ?_
    refine lv_aload_n hx hb dX4_mostBy_12 rfl (lv_at hl 3 rfl) ?_
    refine k_get (D := (dC, dI)) (ci := 4) (v := .int 1) (C := RX4) (T := TX4) (N := 6) hx hb hts hinX4 hown hK hP 0 rfl rfl 4 (by decide) w_0 rfl rfl dX4_mostBy_13 ?_
    refine lv_imul hx hb dX4_mostBy_16 ?_
    refine k_int (v := 9) (by decide +kernel) ?_
    refine lv_icmp_ge (tgt := 124) hx hb dX4_mostBy_17 (by decide) (fun q9 => absurd q9 (by decide +kernel)) (fun _ => ?_)
    refine lv_iload hx hb dX4_mostBy_20 (lv_at hl 0 rfl) ?_
    refine lv_aload_n hx hb dX4_mostBy_22 rfl (lv_at hl 3 rfl) ?_
    refine k_get (D := (dC, dI)) (ci := 4) (v := .ref (p0 1)) (C := RX4) (T := TX4) (N := 6) hx hb hts hinX4 hown hK hP 0 rfl rfl 0 (by decide) w_1 rfl rfl dX4_mostBy_23 ?_
    refine va_alen (v := 9216) hx hb hK hP 1 0 rfl rfl rfl dX4_mostBy_26 ?_
    refine lv_icmp_ge (tgt := 124) hx hb dX4_mostBy_27 (by decide) (fun q9 => absurd q9 (by decide +kernel)) (fun _ => ?_)
    refine lv_aload_n hx hb dX4_mostBy_30 rfl (lv_at hl 3 rfl) ?_
    refine k_get (D := (dC, dI)) (ci := 4) (v := .ref (p0 1)) (C := RX4) (T := TX4) (N := 6) hx hb hts hinX4 hown hK hP 0 rfl rfl 0 (by decide) w_1 rfl rfl dX4_mostBy_31 ?_
    refine lv_iload hx hb dX4_mostBy_34 (lv_at hl 0 rfl) ?_
    refine k_iald (v := 0) hx hb hK hP 1 0 0 rfl rfl rfl (Nat.le_of_ble_eq_true rfl) (Nat.le_of_ble_eq_true rfl) rfl dX4_mostBy_36 ?_
    refine lv_ldc (v := 2147483647) hx hb hown w_2 dX4_mostBy_37 ?_
    refine lv_icmp_ne (tgt := 45) hx hb dX4_mostBy_39 (by decide) (fun _ => ?_) (fun q9 => absurd q9 (by decide +kernel))
    refine lv_aload_n hx hb dX4_mostBy_45 rfl (lv_at hl 3 rfl) ?_
    refine k_get (D := (dC, dI)) (ci := 4) (v := .ref (p2 1)) (C := RX4) (T := TX4) (N := 6) hx hb hts hinX4 hown hK hP 0 rfl rfl 3 (by decide) w_3 rfl rfl dX4_mostBy_46 ?_
    refine lv_aload_n hx hb dX4_mostBy_49 rfl (lv_at hl 3 rfl) ?_
    refine lv_iload hx hb dX4_mostBy_50 (lv_at hl 0 rfl) ?_
    refine k_ci (wc := [((p0 0), .inr (4, [.ref (p0 1), .ref (p0 2), .ref (p0 3), .ref (p2 1), .int 1, .int 1]))]) (wr := [((p0 1), .inl (cI, 9216, .inl (upd (fun k => if 0 ≤ k ∧ k < 9 then 2147483647 else 0) 0 0))), ((p2 1), .inr (5, [.ref (p2 2), .ref (p2 3), .ref (p2 4), .ref (p2 5), .ref (p2 6), .ref (p2 7), .ref (p2 8), .ref (p2 9), .ref (p2 10), .ref (p2 11), .ref (p2 12), .ref (p2 13), .int 0, .int 0, .int 0, .int 0, .int 0, .int 100, .int 0, .int 0]))]) (fun hPc hDc hFc => va_runV (As := [.int 0]) (rest := [.ref (p2 1)]) ⟨hx, hb, hml, hown, hts⟩ (c_X4_setOf_v0 l dC dI cI cJ cZ cM p0 p2 H.size) (cwV 1 hts gX4_mostBy_X4_setOf rfl rfl rfl (by decide +kernel) ⟨(Nat.le_of_ble_eq_true rfl), (Nat.le_of_ble_eq_true rfl)⟩) (k_pV hPc hDc hK hN hC hS hFc hP (q0 := 0) (ci := 4) rfl rfl) rfl rfl hl.1 rfl (lv_room (Nat.le_of_ble_eq_true rfl)) dX4_mostBy_52 ⟨(Nat.le_of_ble_eq_true rfl), (Nat.le_of_ble_eq_true rfl)⟩) hP hD hS hA [0] [1, 2] rfl rfl rfl rfl (by decide) (fun _ => rfl) 0 0 rfl rfl (fun r_34 u_35 H locs hw hP hD hS => ?_)
    obtain rfl : r_34 = 0 := hw
    have hP : va_P (dC, dI) vwCl [((p0 1), .inl (cI, 9216, .inl (upd (fun k => if 0 ≤ k ∧ k < 9 then 2147483647 else 0) 0 0))), ((p2 1), .inr (5, [.ref (p2 2), .ref (p2 3), .ref (p2 4), .ref (p2 5), .ref (p2 6), .ref (p2 7), .ref (p2 8), .ref (p2 9), .ref (p2 10), .ref (p2 11), .ref (p2 12), .ref (p2 13), .int 0, .int 0, .int 0, .int 0, .int 0, .int 100, .int 0, .int 0])), ((p0 0), .inr (4, [.ref (p0 1), .ref (p0 2), .ref (p0 3), .ref (p2 1), .int 1, .int 1]))] H := hP
    have hD : va_D A [((p0 1), .inl (cI, 9216, .inl (upd (fun k => if 0 ≤ k ∧ k < 9 then 2147483647 else 0) 0 0))), ((p2 1), .inr (5, [.ref (p2 2), .ref (p2 3), .ref (p2 4), .ref (p2 5), .ref (p2 6), .ref (p2 7), .ref (p2 8), .ref (p2 9), .ref (p2 10), .ref (p2 11), .ref (p2 12), .ref (p2 13), .int 0, .int 0, .int 0, .int 0, .int 0, .int 100, .int 0, .int 0])), ((p0 0), .inr (4, [.ref (p0 1), .ref (p0 2), .ref (p0 3), .ref (p2 1), .int 1, .int 1]))] := hD
    refine k_ci (wc := [((p2 1), .inr (5, [.ref (p2 2), .ref (p2 3), .ref (p2 4), .ref (p2 5), .ref (p2 6), .ref (p2 7), .ref (p2 8), .ref (p2 9), .ref (p2 10), .ref (p2 11), .ref (p2 12), .ref (p2 13), .int 0, .int 0, .int 0, .int 0, .int 0, .int 100, .int 0, .int 0]))]) (wr := [((p0 1), .inl (cI, 9216, .inl (upd (fun k => if 0 ≤ k ∧ k < 9 then 2147483647 else 0) 0 0))), ((p0 0), .inr (4, [.ref (p0 1), .ref (p0 2), .ref (p0 3), .ref (p2 1), .int 1, .int 1]))]) (fun hPc hDc hFc => va_runV (As := [.int 0]) (rest := []) ⟨hx, hb, hml, hown, hts⟩ (c_X5_lastingWorthOf_v0 l dC dI cI cJ cZ cM p2 H.size) (cwV 1 hts gX4_mostBy_X5_lastingWorthOf rfl rfl rfl (by decide +kernel) ⟨(Nat.le_of_ble_eq_true rfl), (Nat.le_of_ble_eq_true rfl)⟩) (k_pV hPc hDc hK hN hC hS hFc hP (q0 := 1) (ci := 5) rfl rfl) rfl rfl hl.1 rfl (lv_room (Nat.le_of_ble_eq_true rfl)) dX4_mostBy_55 ⟨(Nat.le_of_ble_eq_true rfl), (Nat.le_of_ble_eq_true rfl)⟩) hP hD hS hA [1] [0, 2] rfl rfl rfl rfl (by decide) (fun _ => rfl) 0 0 rfl rfl (fun r_36 u_37 H locs hw hP hD hS => ?_)
    obtain rfl : r_36 = 0 := hw
    have hP : va_P (dC, dI) vwCl [((p0 1), .inl (cI, 9216, .inl (upd (fun k => if 0 ≤ k ∧ k < 9 then 2147483647 else 0) 0 0))), ((p0 0), .inr (4, [.ref (p0 1), .ref (p0 2), .ref (p0 3), .ref (p2 1), .int 1, .int 1])), ((p2 1), .inr (5, [.ref (p2 2), .ref (p2 3), .ref (p2 4), .ref (p2 5), .ref (p2 6), .ref (p2 7), .ref (p2 8), .ref (p2 9), .ref (p2 10), .ref (p2 11), .ref (p2 12), .ref (p2 13), .int 0, .int 0, .int 0, .int 0, .int 0, .int 100, .int 0, .int 0]))] H := hP
    have hD : va_D A [((p0 1), .inl (cI, 9216, .inl (upd (fun k => if 0 ≤ k ∧ k < 9 then 2147483647 else 0) 0 0))), ((p0 0), .inr (4, [.ref (p0 1), .ref (p0 2), .ref (p0 3), .ref (p2 1), .int 1, .int 1])), ((p2 1), .inr (5, [.ref (p2 2), .ref (p2 3), .ref (p2 4), .ref (p2 5), .ref (p2 6), .ref (p2 7), .ref (p2 8), .ref (p2 9), .ref (p2 10), .ref (p2 11), .ref (p2 12), .ref (p2 13), .int 0, .int 0, .int 0, .int 0, .int 0, .int 100, .int 0, .int 0]))] := hD
    refine lv_istore (lv' := [(5, .int 0), (4, .int 0), (3, .int (-1)), (2, .int (-1)), (0, .ref (p0 0)), (1, .int 8)]) hx hb dX4_mostBy_58 hl (by decide) rfl (fun ls hl => ?_)
    refine lv_iload hx hb dX4_mostBy_60 (lv_at hl 0 rfl) ?_
    refine lv_iload_n hx hb dX4_mostBy_62 rfl (lv_at hl 2 rfl) ?_
    refine lv_icmp_ne (tgt := 84) hx hb dX4_mostBy_63 (by decide) (fun _ => ?_) (fun q9 => absurd q9 (by decide +kernel))
    refine lv_iconst (v := 0) hx hb dX4_mostBy_84 (by decide +kernel) ?_
    refine lv_istore (lv' := [(6, .int 0), (5, .int 0), (4, .int 0), (3, .int (-1)), (2, .int (-1)), (0, .ref (p0 0)), (1, .int 8)]) hx hb dX4_mostBy_85 hl (by decide) rfl (fun ls hl => ?_)
    refine lv_iload hx hb dX4_mostBy_87 (lv_at hl 1 rfl) ?_
    refine lv_iload_n hx hb dX4_mostBy_89 rfl (lv_at hl 3 rfl) ?_
    refine lv_icmp_gt (tgt := 112) hx hb dX4_mostBy_90 (by decide) (fun _ => ?_) (fun q9 => absurd q9 (by decide +kernel))
    refine lv_iload hx hb dX4_mostBy_112 (lv_at hl 2 rfl) ?_
    refine lv_istore_n (lv' := [(2, .int 0), (6, .int 0), (5, .int 0), (4, .int 0), (3, .int (-1)), (0, .ref (p0 0)), (1, .int 8)]) hx hb dX4_mostBy_114 rfl hl (by decide) rfl (fun ls hl => ?_)
    refine lv_iload hx hb dX4_mostBy_115 (lv_at hl 2 rfl) ?_
    refine lv_istore_n (lv' := [(3, .int 0), (2, .int 0), (6, .int 0), (5, .int 0), (4, .int 0), (0, .ref (p0 0)), (1, .int 8)]) hx hb dX4_mostBy_117 rfl hl (by decide) rfl (fun ls hl => ?_)
    refine lv_iinc (v := 1) (lv' := [(4, .int 1), (3, .int 0), (2, .int 0), (6, .int 0), (5, .int 0), (0, .ref (p0 0)), (1, .int 8)]) hx hb dX4_mostBy_118 hl (k := 4) rfl (by decide +kernel) (by decide) rfl (fun ls hl => ?_)
    refine lv_goto (tgt := 7) hx hb dX4_mostBy_121 (by decide) ?_
    refine lv_iload hx hb dX4_mostBy_7 (lv_at hl 0 rfl) ?_
    refine lv_iload_n hx hb dX4_mostBy_9 rfl (lv_at hl 6 rfl) ?_
    refine lv_iconst (v := 1) hx hb dX4_mostBy_10 (by decide +kernel) ?_
    refine lv_iadd hx hb dX4_mostBy_11 ?_
    refine k_int (v := 9) (by decide +kernel) ?_
    refine lv_aload_n hx hb dX4_mostBy_12 rfl (lv_at hl 5 rfl) ?_
    refine k_get (D := (dC, dI)) (ci := 4) (v := .int 1) (C := RX4) (T := TX4) (N := 6) hx hb hts hinX4 hown hK hP 1 rfl rfl 4 (by decide) w_0 rfl rfl dX4_mostBy_13 ?_
    refine lv_imul hx hb dX4_mostBy_16 ?_
    refine k_int (v := 9) (by decide +kernel) ?_
    refine lv_icmp_ge (tgt := 124) hx hb dX4_mostBy_17 (by decide) (fun q9 => absurd q9 (by decide +kernel)) (fun _ => ?_)
    refine lv_iload hx hb dX4_mostBy_20 (lv_at hl 0 rfl) ?_
    refine lv_aload_n hx hb dX4_mostBy_22 rfl (lv_at hl 5 rfl) ?_
    refine k_get (D := (dC, dI)) (ci := 4) (v := .ref (p0 1)) (C := RX4) (T := TX4) (N := 6) hx hb hts hinX4 hown hK hP 1 rfl rfl 0 (by decide) w_1 rfl rfl dX4_mostBy_23 ?_
    refine va_alen (v := 9216) hx hb hK hP 0 0 rfl rfl rfl dX4_mostBy_26 ?_
    refine lv_icmp_ge (tgt := 124) hx hb dX4_mostBy_27 (by decide) (fun q9 => absurd q9 (by decide +kernel)) (fun _ => ?_)
    refine lv_aload_n hx hb dX4_mostBy_30 rfl (lv_at hl 5 rfl) ?_
    refine k_get (D := (dC, dI)) (ci := 4) (v := .ref (p0 1)) (C := RX4) (T := TX4) (N := 6) hx hb hts hinX4 hown hK hP 1 rfl rfl 0 (by decide) w_1 rfl rfl dX4_mostBy_31 ?_
    refine lv_iload hx hb dX4_mostBy_34 (lv_at hl 0 rfl) ?_
    refine k_iald (v := 2147483647) hx hb hK hP 0 0 1 rfl rfl rfl (Nat.le_of_ble_eq_true rfl) (Nat.le_of_ble_eq_true rfl) rfl dX4_mostBy_36 ?_
    refine lv_ldc (v := 2147483647) hx hb hown w_2 dX4_mostBy_37 ?_
    refine lv_icmp_ne (tgt := 45) hx hb dX4_mostBy_39 (by decide) (fun q9 => absurd q9 (by decide +kernel)) (fun _ => ?_)
    refine lv_goto (tgt := 118) hx hb dX4_mostBy_42 (by decide) ?_
    refine lv_iinc (v := 2) (lv' := [(4, .int 2), (3, .int 0), (2, .int 0), (6, .int 0), (5, .int 0), (0, .ref (p0 0)), (1, .int 8)]) hx hb dX4_mostBy_118 hl (k := 0) rfl (by decide +kernel) (by decide) rfl (fun ls hl => ?_)
    refine lv_goto (tgt := 7) hx hb dX4_mostBy_121 (by decide) ?_
    refine lv_iload hx hb dX4_mostBy_7 (lv_at hl 0 rfl) ?_
    refine lv_iload_n hx hb dX4_mostBy_9 rfl (lv_at hl 6 rfl) ?_
    refine lv_iconst (v := 1) hx hb dX4_mostBy_10 (by decide +kernel) ?_
    refine lv_iadd hx hb dX4_mostBy_11 ?_
    refine k_int (v := 9) (by decide +kernel) ?_
    refine lv_aload_n hx hb dX4_mostBy_12 rfl (lv_at hl 5 rfl) ?_
    refine k_get (D := (dC, dI)) (ci := 4) (v := .int 1) (C := RX4) (T := TX4) (N := 6) hx hb hts hinX4 hown hK hP 1 rfl rfl 4 (by decide) w_0 rfl rfl dX4_mostBy_13 ?_
    refine lv_imul hx hb dX4_mostBy_16 ?_
    refine k_int (v := 9) (by decide +kernel) ?_
    refine lv_icmp_ge (tgt := 124) hx hb dX4_mostBy_17 (by decide) (fun q9 => absurd q9 (by decide +kernel)) (fun _ => ?_)
    refine lv_iload hx hb dX4_mostBy_20 (lv_at hl 0 rfl) ?_
    refine lv_aload_n hx hb dX4_mostBy_22 rfl (lv_at hl 5 rfl) ?_
    refine k_get (D := (dC, dI)) (ci := 4) (v := .ref (p0 1)) (C := RX4) (T := TX4) (N := 6) hx hb hts hinX4 hown hK hP 1 rfl rfl 0 (by decide) w_1 rfl rfl dX4_mostBy_23 ?_
    refine va_alen (v := 9216) hx hb hK hP 0 0 rfl rfl rfl dX4_mostBy_26 ?_
    refine lv_icmp_ge (tgt := 124) hx hb dX4_mostBy_27 (by decide) (fun q9 => absurd q9 (by decide +kernel)) (fun _ => ?_)
    refine lv_aload_n hx hb dX4_mostBy_30 rfl (lv_at hl 5 rfl) ?_
    refine k_get (D := (dC, dI)) (ci := 4) (v := .ref (p0 1)) (C := RX4) (T := TX4) (N := 6) hx hb hts hinX4 hown hK hP 1 rfl rfl 0 (by decide) w_1 rfl rfl dX4_mostBy_31 ?_
    refine lv_iload hx hb dX4_mostBy_34 (lv_at hl 0 rfl) ?_
    refine k_iald (v := 2147483647) hx hb hK hP 0 0 2 rfl rfl rfl (Nat.le_of_ble_eq_true rfl) (Nat.le_of_ble_eq_true rfl) rfl dX4_mostBy_36 ?_
    refine lv_ldc (v := 2147483647) hx hb hown w_2 dX4_mostBy_37 ?_
    refine lv_icmp_ne (tgt := 45) hx hb dX4_mostBy_39 (by decide) (fun q9 => absurd q9 (by decide +kernel)) (fun _ => ?_)
    refine lv_goto (tgt := 118) hx hb dX4_mostBy_42 (by decide) ?_
    refine lv_iinc (v := 3) (lv' := [(4, .int 3), (3, .int 0), (2, .int 0), (6, .int 0), (5, .int 0), (0, .ref (p0 0)), (1, .int 8)]) hx hb dX4_mostBy_118 hl (k := 0) rfl (by decide +kernel) (by decide) rfl (fun ls hl => ?_)
    refine lv_goto (tgt := 7) hx hb dX4_mostBy_121 (by decide) ?_
    refine lv_iload hx hb dX4_mostBy_7 (lv_at hl 0 rfl) ?_
    refine lv_iload_n hx hb dX4_mostBy_9 rfl (lv_at hl 6 rfl) ?_
    refine lv_iconst (v := 1) hx hb dX4_mostBy_10 (by decide +kernel) ?_
    refine lv_iadd hx hb dX4_mostBy_11 ?_
    refine k_int (v := 9) (by decide +kernel) ?_
    refine lv_aload_n hx hb dX4_mostBy_12 rfl (lv_at hl 5 rfl) ?_
    refine k_get (D := (dC, dI)) (ci := 4) (v := .int 1) (C := RX4) (T := TX4) (N := 6) hx hb hts hinX4 hown hK hP 1 rfl rfl 4 (by decide) w_0 rfl rfl dX4_mostBy_13 ?_
    refine lv_imul hx hb dX4_mostBy_16 ?_
    refine k_int (v := 9) (by decide +kernel) ?_
    refine lv_icmp_ge (tgt := 124) hx hb dX4_mostBy_17 (by decide) (fun q9 => absurd q9 (by decide +kernel)) (fun _ => ?_)
    refine lv_iload hx hb dX4_mostBy_20 (lv_at hl 0 rfl) ?_
    refine lv_aload_n hx hb dX4_mostBy_22 rfl (lv_at hl 5 rfl) ?_
    refine k_get (D := (dC, dI)) (ci := 4) (v := .ref (p0 1)) (C := RX4) (T := TX4) (N := 6) hx hb hts hinX4 hown hK hP 1 rfl rfl 0 (by decide) w_1 rfl rfl dX4_mostBy_23 ?_
    refine va_alen (v := 9216) hx hb hK hP 0 0 rfl rfl rfl dX4_mostBy_26 ?_
    refine lv_icmp_ge (tgt := 124) hx hb dX4_mostBy_27 (by decide) (fun q9 => absurd q9 (by decide +kernel)) (fun _ => ?_)
    refine lv_aload_n hx hb dX4_mostBy_30 rfl (lv_at hl 5 rfl) ?_
    refine k_get (D := (dC, dI)) (ci := 4) (v := .ref (p0 1)) (C := RX4) (T := TX4) (N := 6) hx hb hts hinX4 hown hK hP 1 rfl rfl 0 (by decide) w_1 rfl rfl dX4_mostBy_31 ?_
    refine lv_iload hx hb dX4_mostBy_34 (lv_at hl 0 rfl) ?_
    refine k_iald (v := 2147483647) hx hb hK hP 0 0 3 rfl rfl rfl (Nat.le_of_ble_eq_true rfl) (Nat.le_of_ble_eq_true rfl) rfl dX4_mostBy_36 ?_
    refine lv_ldc (v := 2147483647) hx hb hown w_2 dX4_mostBy_37 ?_
    refine lv_icmp_ne (tgt := 45) hx hb dX4_mostBy_39 (by decide) (fun q9 => absurd q9 (by decide +kernel)) (fun _ => ?_)
    refine lv_goto (tgt := 118) hx hb dX4_mostBy_42 (by decide) ?_
    refine lv_iinc (v := 4) (lv' := [(4, .int 4), (3, .int 0), (2, .int 0), (6, .int 0), (5, .int 0), (0, .ref (p0 0)), (1, .int 8)]) hx hb dX4_mostBy_118 hl (k := 0) rfl (by decide +kernel) (by decide) rfl (fun ls hl => ?_)
    refine lv_goto (tgt := 7) hx hb dX4_mostBy_121 (by decide) ?_
    refine lv_iload hx hb dX4_mostBy_7 (lv_at hl 0 rfl) ?_
    refine lv_iload_n hx hb dX4_mostBy_9 rfl (lv_at hl 6 rfl) ?_
    refine lv_iconst (v := 1) hx hb dX4_mostBy_10 (by decide +kernel) ?_
    refine lv_iadd hx hb dX4_mostBy_11 ?_
    refine k_int (v := 9) (by decide +kernel) ?_
    refine lv_aload_n hx hb dX4_mostBy_12 rfl (lv_at hl 5 rfl) ?_
    refine k_get (D := (dC, dI)) (ci := 4) (v := .int 1) (C := RX4) (T := TX4) (N := 6) hx hb hts hinX4 hown hK hP 1 rfl rfl 4 (by decide) w_0 rfl rfl dX4_mostBy_13 ?_
    refine lv_imul hx hb dX4_mostBy_16 ?_
    refine k_int (v := 9) (by decide +kernel) ?_
    refine lv_icmp_ge (tgt := 124) hx hb dX4_mostBy_17 (by decide) (fun q9 => absurd q9 (by decide +kernel)) (fun _ => ?_)
    refine lv_iload hx hb dX4_mostBy_20 (lv_at hl 0 rfl) ?_
    refine lv_aload_n hx hb dX4_mostBy_22 rfl (lv_at hl 5 rfl) ?_
    refine k_get (D := (dC, dI)) (ci := 4) (v := .ref (p0 1)) (C := RX4) (T := TX4) (N := 6) hx hb hts hinX4 hown hK hP 1 rfl rfl 0 (by decide) w_1 rfl rfl dX4_mostBy_23 ?_
    refine va_alen (v := 9216) hx hb hK hP 0 0 rfl rfl rfl dX4_mostBy_26 ?_
    refine lv_icmp_ge (tgt := 124) hx hb dX4_mostBy_27 (by decide) (fun q9 => absurd q9 (by decide +kernel)) (fun _ => ?_)
    refine lv_aload_n hx hb dX4_mostBy_30 rfl (lv_at hl 5 rfl) ?_
    refine k_get (D := (dC, dI)) (ci := 4) (v := .ref (p0 1)) (C := RX4) (T := TX4) (N := 6) hx hb hts hinX4 hown hK hP 1 rfl rfl 0 (by decide) w_1 rfl rfl dX4_mostBy_31 ?_
    refine lv_iload hx hb dX4_mostBy_34 (lv_at hl 0 rfl) ?_
    refine k_iald (v := 2147483647) hx hb hK hP 0 0 4 rfl rfl rfl (Nat.le_of_ble_eq_true rfl) (Nat.le_of_ble_eq_true rfl) rfl dX4_mostBy_36 ?_
    refine lv_ldc (v := 2147483647) hx hb hown w_2 dX4_mostBy_37 ?_
    refine lv_icmp_ne (tgt := 45) hx hb dX4_mostBy_39 (by decide) (fun q9 => absurd q9 (by decide +kernel)) (fun _ => ?_)
    refine lv_goto (tgt := 118) hx hb dX4_mostBy_42 (by decide) ?_
    refine lv_iinc (v := 5) (lv' := [(4, .int 5), (3, .int 0), (2, .int 0), (6, .int 0), (5, .int 0), (0, .ref (p0 0)), (1, .int 8)]) hx hb dX4_mostBy_118 hl (k := 0) rfl (by decide +kernel) (by decide) rfl (fun ls hl => ?_)
    refine lv_goto (tgt := 7) hx hb dX4_mostBy_121 (by decide) ?_
    refine lv_iload hx hb dX4_mostBy_7 (lv_at hl 0 rfl) ?_
    refine lv_iload_n hx hb dX4_mostBy_9 rfl (lv_at hl 6 rfl) ?_
    refine lv_iconst (v := 1) hx hb dX4_mostBy_10 (by decide +kernel) ?_
    refine lv_iadd hx hb dX4_mostBy_11 ?_
    refine k_int (v := 9) (by decide +kernel) ?_
    refine lv_aload_n hx hb dX4_mostBy_12 rfl (lv_at hl 5 rfl) ?_
    refine k_get (D := (dC, dI)) (ci := 4) (v := .int 1) (C := RX4) (T := TX4) (N := 6) hx hb hts hinX4 hown hK hP 1 rfl rfl 4 (by decide) w_0 rfl rfl dX4_mostBy_13 ?_
    refine lv_imul hx hb dX4_mostBy_16 ?_
    refine k_int (v := 9) (by decide +kernel) ?_
    refine lv_icmp_ge (tgt := 124) hx hb dX4_mostBy_17 (by decide) (fun q9 => absurd q9 (by decide +kernel)) (fun _ => ?_)
    refine lv_iload hx hb dX4_mostBy_20 (lv_at hl 0 rfl) ?_
    refine lv_aload_n hx hb dX4_mostBy_22 rfl (lv_at hl 5 rfl) ?_
    refine k_get (D := (dC, dI)) (ci := 4) (v := .ref (p0 1)) (C := RX4) (T := TX4) (N := 6) hx hb hts hinX4 hown hK hP 1 rfl rfl 0 (by decide) w_1 rfl rfl dX4_mostBy_23 ?_
    refine va_alen (v := 9216) hx hb hK hP 0 0 rfl rfl rfl dX4_mostBy_26 ?_
    refine lv_icmp_ge (tgt := 124) hx hb dX4_mostBy_27 (by decide) (fun q9 => absurd q9 (by decide +kernel)) (fun _ => ?_)
    refine lv_aload_n hx hb dX4_mostBy_30 rfl (lv_at hl 5 rfl) ?_
    refine k_get (D := (dC, dI)) (ci := 4) (v := .ref (p0 1)) (C := RX4) (T := TX4) (N := 6) hx hb hts hinX4 hown hK hP 1 rfl rfl 0 (by decide) w_1 rfl rfl dX4_mostBy_31 ?_
    refine lv_iload hx hb dX4_mostBy_34 (lv_at hl 0 rfl) ?_
    refine k_iald (v := 2147483647) hx hb hK hP 0 0 5 rfl rfl rfl (Nat.le_of_ble_eq_true rfl) (Nat.le_of_ble_eq_true rfl) rfl dX4_mostBy_36 ?_
    refine lv_ldc (v := 2147483647) hx hb hown w_2 dX4_mostBy_37 ?_
    refine lv_icmp_ne (tgt := 45) hx hb dX4_mostBy_39 (by decide) (fun q9 => absurd q9 (by decide +kernel)) (fun _ => ?_)
    refine lv_goto (tgt := 118) hx hb dX4_mostBy_42 (by decide) ?_
    refine lv_iinc (v := 6) (lv' := [(4, .int 6), (3, .int 0), (2, .int 0), (6, .int 0), (5, .int 0), (0, .ref (p0 0)), (1, .int 8)]) hx hb dX4_mostBy_118 hl (k := 0) rfl (by decide +kernel) (by decide) rfl (fun ls hl => ?_)
    refine lv_goto (tgt := 7) hx hb dX4_mostBy_121 (by decide) ?_
    refine lv_iload hx hb dX4_mostBy_7 (lv_at hl 0 rfl) ?_
    refine lv_iload_n hx hb dX4_mostBy_9 rfl (lv_at hl 6 rfl) ?_
    refine lv_iconst (v := 1) hx hb dX4_mostBy_10 (by decide +kernel) ?_
    refine lv_iadd hx hb dX4_mostBy_11 ?_
    refine k_int (v := 9) (by decide +kernel) ?_
    refine lv_aload_n hx hb dX4_mostBy_12 rfl (lv_at hl 5 rfl) ?_
    refine k_get (D := (dC, dI)) (ci := 4) (v := .int 1) (C := RX4) (T := TX4) (N := 6) hx hb hts hinX4 hown hK hP 1 rfl rfl 4 (by decide) w_0 rfl rfl dX4_mostBy_13 ?_
    refine lv_imul hx hb dX4_mostBy_16 ?_
    refine k_int (v := 9) (by decide +kernel) ?_
    refine lv_icmp_ge (tgt := 124) hx hb dX4_mostBy_17 (by decide) (fun q9 => absurd q9 (by decide +kernel)) (fun _ => ?_)
    refine lv_iload hx hb dX4_mostBy_20 (lv_at hl 0 rfl) ?_
    refine lv_aload_n hx hb dX4_mostBy_22 rfl (lv_at hl 5 rfl) ?_
    refine k_get (D := (dC, dI)) (ci := 4) (v := .ref (p0 1)) (C := RX4) (T := TX4) (N := 6) hx hb hts hinX4 hown hK hP 1 rfl rfl 0 (by decide) w_1 rfl rfl dX4_mostBy_23 ?_
    refine va_alen (v := 9216) hx hb hK hP 0 0 rfl rfl rfl dX4_mostBy_26 ?_
    refine lv_icmp_ge (tgt := 124) hx hb dX4_mostBy_27 (by decide) (fun q9 => absurd q9 (by decide +kernel)) (fun _ => ?_)
    refine lv_aload_n hx hb dX4_mostBy_30 rfl (lv_at hl 5 rfl) ?_
    refine k_get (D := (dC, dI)) (ci := 4) (v := .ref (p0 1)) (C := RX4) (T := TX4) (N := 6) hx hb hts hinX4 hown hK hP 1 rfl rfl 0 (by decide) w_1 rfl rfl dX4_mostBy_31 ?_
    refine lv_iload hx hb dX4_mostBy_34 (lv_at hl 0 rfl) ?_
    refine k_iald (v := 2147483647) hx hb hK hP 0 0 6 rfl rfl rfl (Nat.le_of_ble_eq_true rfl) (Nat.le_of_ble_eq_true rfl) rfl dX4_mostBy_36 ?_
    refine lv_ldc (v := 2147483647) hx hb hown w_2 dX4_mostBy_37 ?_
    refine lv_icmp_ne (tgt := 45) hx hb dX4_mostBy_39 (by decide) (fun q9 => absurd q9 (by decide +kernel)) (fun _ => ?_)
    refine lv_goto (tgt := 118) hx hb dX4_mostBy_42 (by decide) ?_
    refine lv_iinc (v := 7) (lv' := [(4, .int 7), (3, .int 0), (2, .int 0), (6, .int 0), (5, .int 0), (0, .ref (p0 0)), (1, .int 8)]) hx hb dX4_mostBy_118 hl (k := 0) rfl (by decide +kernel) (by decide) rfl (fun ls hl => ?_)
    refine lv_goto (tgt := 7) hx hb dX4_mostBy_121 (by decide) ?_
    refine lv_iload hx hb dX4_mostBy_7 (lv_at hl 0 rfl) ?_
    refine lv_iload_n hx hb dX4_mostBy_9 rfl (lv_at hl 6 rfl) ?_
    refine lv_iconst (v := 1) hx hb dX4_mostBy_10 (by decide +kernel) ?_
    refine lv_iadd hx hb dX4_mostBy_11 ?_
    refine k_int (v := 9) (by decide +kernel) ?_
    refine lv_aload_n hx hb dX4_mostBy_12 rfl (lv_at hl 5 rfl) ?_
    refine k_get (D := (dC, dI)) (ci := 4) (v := .int 1) (C := RX4) (T := TX4) (N := 6) hx hb hts hinX4 hown hK hP 1 rfl rfl 4 (by decide) w_0 rfl rfl dX4_mostBy_13 ?_
    refine lv_imul hx hb dX4_mostBy_16 ?_
    refine k_int (v := 9) (by decide +kernel) ?_
    refine lv_icmp_ge (tgt := 124) hx hb dX4_mostBy_17 (by decide) (fun q9 => absurd q9 (by decide +kernel)) (fun _ => ?_)
    refine lv_iload hx hb dX4_mostBy_20 (lv_at hl 0 rfl) ?_
    refine lv_aload_n hx hb dX4_mostBy_22 rfl (lv_at hl 5 rfl) ?_
    refine k_get (D := (dC, dI)) (ci := 4) (v := .ref (p0 1)) (C := RX4) (T := TX4) (N := 6) hx hb hts hinX4 hown hK hP 1 rfl rfl 0 (by decide) w_1 rfl rfl dX4_mostBy_23 ?_
    refine va_alen (v := 9216) hx hb hK hP 0 0 rfl rfl rfl dX4_mostBy_26 ?_
    refine lv_icmp_ge (tgt := 124) hx hb dX4_mostBy_27 (by decide) (fun q9 => absurd q9 (by decide +kernel)) (fun _ => ?_)
    refine lv_aload_n hx hb dX4_mostBy_30 rfl (lv_at hl 5 rfl) ?_
    refine k_get (D := (dC, dI)) (ci := 4) (v := .ref (p0 1)) (C := RX4) (T := TX4) (N := 6) hx hb hts hinX4 hown hK hP 1 rfl rfl 0 (by decide) w_1 rfl rfl dX4_mostBy_31 ?_
    refine lv_iload hx hb dX4_mostBy_34 (lv_at hl 0 rfl) ?_
    refine k_iald (v := 2147483647) hx hb hK hP 0 0 7 rfl rfl rfl (Nat.le_of_ble_eq_true rfl) (Nat.le_of_ble_eq_true rfl) rfl dX4_mostBy_36 ?_
    refine lv_ldc (v := 2147483647) hx hb hown w_2 dX4_mostBy_37 ?_
    refine lv_icmp_ne (tgt := 45) hx hb dX4_mostBy_39 (by decide) (fun q9 => absurd q9 (by decide +kernel)) (fun _ => ?_)
    refine lv_goto (tgt := 118) hx hb dX4_mostBy_42 (by decide) ?_
    refine lv_iinc (v := 8) (lv' := [(4, .int 8), (3, .int 0), (2, .int 0), (6, .int 0), (5, .int 0), (0, .ref (p0 0)), (1, .int 8)]) hx hb dX4_mostBy_118 hl (k := 0) rfl (by decide +kernel) (by decide) rfl (fun ls hl => ?_)
    refine lv_goto (tgt := 7) hx hb dX4_mostBy_121 (by decide) ?_
    refine lv_iload hx hb dX4_mostBy_7 (lv_at hl 0 rfl) ?_
    refine lv_iload_n hx hb dX4_mostBy_9 rfl (lv_at hl 6 rfl) ?_
    refine lv_iconst (v := 1) hx hb dX4_mostBy_10 (by decide +kernel) ?_
    refine lv_iadd hx hb dX4_mostBy_11 ?_
    refine k_int (v := 9) (by decide +kernel) ?_
    refine lv_aload_n hx hb dX4_mostBy_12 rfl (lv_at hl 5 rfl) ?_
    refine k_get (D := (dC, dI)) (ci := 4) (v := .int 1) (C := RX4) (T := TX4) (N := 6) hx hb hts hinX4 hown hK hP 1 rfl rfl 4 (by decide) w_0 rfl rfl dX4_mostBy_13 ?_
    refine lv_imul hx hb dX4_mostBy_16 ?_
    refine k_int (v := 9) (by decide +kernel) ?_
    refine lv_icmp_ge (tgt := 124) hx hb dX4_mostBy_17 (by decide) (fun q9 => absurd q9 (by decide +kernel)) (fun _ => ?_)
    refine lv_iload hx hb dX4_mostBy_20 (lv_at hl 0 rfl) ?_
    refine lv_aload_n hx hb dX4_mostBy_22 rfl (lv_at hl 5 rfl) ?_
    refine k_get (D := (dC, dI)) (ci := 4) (v := .ref (p0 1)) (C := RX4) (T := TX4) (N := 6) hx hb hts hinX4 hown hK hP 1 rfl rfl 0 (by decide) w_1 rfl rfl dX4_mostBy_23 ?_
    refine va_alen (v := 9216) hx hb hK hP 0 0 rfl rfl rfl dX4_mostBy_26 ?_
    refine lv_icmp_ge (tgt := 124) hx hb dX4_mostBy_27 (by decide) (fun q9 => absurd q9 (by decide +kernel)) (fun _ => ?_)
    refine lv_aload_n hx hb dX4_mostBy_30 rfl (lv_at hl 5 rfl) ?_
    refine k_get (D := (dC, dI)) (ci := 4) (v := .ref (p0 1)) (C := RX4) (T := TX4) (N := 6) hx hb hts hinX4 hown hK hP 1 rfl rfl 0 (by decide) w_1 rfl rfl dX4_mostBy_31 ?_
    refine lv_iload hx hb dX4_mostBy_34 (lv_at hl 0 rfl) ?_
    refine k_iald (v := 2147483647) hx hb hK hP 0 0 8 rfl rfl rfl (Nat.le_of_ble_eq_true rfl) (Nat.le_of_ble_eq_true rfl) rfl dX4_mostBy_36 ?_
    refine lv_ldc (v := 2147483647) hx hb hown w_2 dX4_mostBy_37 ?_
    refine lv_icmp_ne (tgt := 45) hx hb dX4_mostBy_39 (by decide) (fun q9 => absurd q9 (by decide +kernel)) (fun _ => ?_)
    refine lv_goto (tgt := 118) hx hb dX4_mostBy_42 (by decide) ?_
    refine lv_iinc (v := 9) (lv' := [(4, .int 9), (3, .int 0), (2, .int 0), (6, .int 0), (5, .int 0), (0, .ref (p0 0)), (1, .int 8)]) hx hb dX4_mostBy_118 hl (k := 0) rfl (by decide +kernel) (by decide) rfl (fun ls hl => ?_)
    refine lv_goto (tgt := 7) hx hb dX4_mostBy_121 (by decide) ?_
    refine lv_iload hx hb dX4_mostBy_7 (lv_at hl 0 rfl) ?_
    refine lv_iload_n hx hb dX4_mostBy_9 rfl (lv_at hl 6 rfl) ?_
    refine lv_iconst (v := 1) hx hb dX4_mostBy_10 (by decide +kernel) ?_
    refine lv_iadd hx hb dX4_mostBy_11 ?_
    refine k_int (v := 9) (by decide +kernel) ?_
    refine lv_aload_n hx hb dX4_mostBy_12 rfl (lv_at hl 5 rfl) ?_
    refine k_get (D := (dC, dI)) (ci := 4) (v := .int 1) (C := RX4) (T := TX4) (N := 6) hx hb hts hinX4 hown hK hP 1 rfl rfl 4 (by decide) w_0 rfl rfl dX4_mostBy_13 ?_
    refine lv_imul hx hb dX4_mostBy_16 ?_
    refine k_int (v := 9) (by decide +kernel) ?_
    refine lv_icmp_ge (tgt := 124) hx hb dX4_mostBy_17 (by decide) (fun _ => ?_) (fun q9 => absurd q9 (by decide +kernel))
    refine lv_iload_n hx hb dX4_mostBy_124 rfl (lv_at hl 2 rfl) ?_
    exact k_ri B hP hD hS dX4_mostBy_125 () [1, 0, 2] rfl rfl rfl (Nat.le_of_ble_eq_true rfl) (Nat.le_of_ble_eq_true rfl) rfl
