set_option maxHeartbeats 4000000 in
set_option maxRecDepth 100000 in
theorem c_X7_is_v21 (l : Launch) (dC : Nat → ClassId) (dI : Nat → Nat → Nat) (cI cJ cZ cM : ClassId) (p0 : Int32) (b_0 : 1 ≤ p0.toInt) (t_0 : p0.toInt ≤ 1)  : k_Mi l yX7_is wsX7_is ({ frames := 1, cells := 0, slots := 0, locals := 40 }) (dC, dI) vwCl (tyy cI cJ cZ cM) [] [.int p0, .int 0, .int 3] 0 0 (fun (u9 : Unit) => []) (fun (r9 : Int32) (u9 : Unit) => r9 = 1) := by
  refine fun sz => k_enter (cc := cX7_is) (maxL := 3) (ret := some (.boolean)) (Qc := fun A => va_Qi (fun (r9 : Int32) (u9 : Unit) => r9 = 1) (fun u => k_B (dC, dI) vwCl (tyy cI cJ cZ cM) A ((fun (u9 : Unit) => []) u)) A) sz (by decide +kernel) rfl (Nat.le_of_ble_eq_true rfl) (fun p e s m args below meth c A ls H locs B hP hD hS hl => ?_)
  obtain ⟨hx, hb, hml, hown, hts, hr, hlk, hnm, hK, hA, hN, hC⟩ := id B
  have hown : s.vm.findClass RX7 = some m.cls := hown
  have hl : lv_has ls 3 [(0, .int p0), (1, .int 0), (2, .int 3)] := hl
  rcases (show p0.toInt = 1 by omega) with c_1
  obtain rfl : p0 = 1 := k_eqL (by decide +kernel) c_1
  refine lv_iload_n hx hb dX7_is_0 rfl (lv_at hl 0 rfl) ?_
  refine lv_iload_n hx hb dX7_is_1 rfl (lv_at hl 1 rfl) ?_
  refine lv_icmp_lt (tgt := 14) hx hb dX7_is_2 (by decide) (fun q9 => absurd q9 (by decide +kernel)) (fun _ => ?_)
  refine lv_iload_n hx hb dX7_is_5 rfl (lv_at hl 0 rfl) ?_
  refine lv_iload_n hx hb dX7_is_6 rfl (lv_at hl 2 rfl) ?_
  refine lv_icmp_gt (tgt := 14) hx hb dX7_is_7 (by decide) (fun q9 => absurd q9 (by decide +kernel)) (fun _ => ?_)
  refine lv_iconst (v := 1) hx hb dX7_is_10 (by decide +kernel) ?_
  refine lv_goto (tgt := 15) hx hb dX7_is_11 (by decide) ?_
  exact k_ri B hP hD hS dX7_is_15 () [] rfl rfl rfl (Nat.le_of_ble_eq_true rfl) (Nat.le_of_ble_eq_true rfl) rfl
set_option maxHeartbeats 4000000 in
set_option maxRecDepth 100000 in
theorem c_X7_most_v2 (l : Launch) (dC : Nat → ClassId) (dI : Nat → Nat → Nat) (cI cJ cZ cM : ClassId) (p0 : Nat) (p1 : Int32) (p2 : Int32) (p3 : Nat → Nat) (b_0 : 0 ≤ p1.toInt) (t_0 : p1.toInt ≤ 8) (b_1 : 1 ≤ p2.toInt) (t_1 : p2.toInt ≤ 1)  : k_Mi l yX7_most wsX7_most ({ frames := 3, cells := 0, slots := 0, locals := 88 }) (dC, dI) vwCl (tyy cI cJ cZ cM) [(p0, .inr (7, oM p3 i7 j7)), ((p3 49), .inl (cI, 22, .inl (fun _ => 0))), ((p3 50), .inl (cI, 22, .inl (fun _ => 0))), ((p3 72), .inl (cI, 9216, .inl (fun _ => 0))), ((p3 14), .inl (cI, 2, .inl (fun _ => 0))), ((p3 18), .inl (cI, 2, .inl (fun _ => 0)))] [.ref p0, .int p1, .int p2] 0 0 (fun (u9 : Unit) => [(p0, .inr (7, oM p3 (upd (upd i7 75 0) 76 0) j7)), ((p3 49), .inl (cI, 22, .inl (fun _ => 0))), ((p3 50), .inl (cI, 22, .inl (fun _ => 0))), ((p3 72), .inl (cI, 9216, .inl (upd (fun _ => (-1)) 0 0))), ((p3 14), .inl (cI, 2, .inl (fun _ => 0))), ((p3 18), .inl (cI, 2, .inl (fun _ => 0)))]) (fun (r9 : Int32) (u9 : Unit) => r9 = 0) := by
  refine fun sz => k_enter (cc := cX7_most) (maxL := 9) (ret := some (.int)) (Qc := fun A => va_Qi (fun (r9 : Int32) (u9 : Unit) => r9 = 0) (fun u => k_B (dC, dI) vwCl (tyy cI cJ cZ cM) A ((fun (u9 : Unit) => [(p0, .inr (7, oM p3 (upd (upd i7 75 0) 76 0) j7)), ((p3 49), .inl (cI, 22, .inl (fun _ => 0))), ((p3 50), .inl (cI, 22, .inl (fun _ => 0))), ((p3 72), .inl (cI, 9216, .inl (upd (fun _ => (-1)) 0 0))), ((p3 14), .inl (cI, 2, .inl (fun _ => 0))), ((p3 18), .inl (cI, 2, .inl (fun _ => 0)))]) u)) A) sz (by decide +kernel) rfl (Nat.le_of_ble_eq_true rfl) (fun p e s m args below meth c A ls H locs B hP hD hS hl => ?_)
  obtain ⟨hx, hb, hml, hown, hts, hr, hlk, hnm, hK, hA, hN, hC⟩ := id B
  have hown : s.vm.findClass RX7 = some m.cls := hown
  have hl : lv_has ls 9 [(0, .ref p0), (1, .int p1), (2, .int p2)] := hl
  have w_0 : (Cond.fieldLink RX7 240 "WishSeaModel" "foundRung" "I").before args s = true := hts _ (List.mem_of_getElem? (i := 1) rfl)
  have w_1 : (Cond.fieldLink RX7 54 "WishSeaModel" "things" "[I").before args s = true := hts _ (List.mem_of_getElem? (i := 2) rfl)
  have w_2 : (Cond.fieldLink RX7 51 "WishSeaModel" "bank" "I").before args s = true := hts _ (List.mem_of_getElem? (i := 3) rfl)
  have w_3 : (Cond.fieldLink RX7 231 "WishSeaModel" "rungSea" "[I").before args s = true := hts _ (List.mem_of_getElem? (i := 4) rfl)
  have w_4 : (Cond.fieldLink RX7 243 "WishSeaModel" "foundSet" "I").before args s = true := hts _ (List.mem_of_getElem? (i := 5) rfl)
  have hinX7 : ∀ w ∈ u_ws RX7 TX7 92, w ∈ wsX7_most := fun _ h => List.mem_cons_of_mem _ (List.mem_append_right _ h)
  rcases (show p1.toInt = 0 ∨ p1.toInt = 1 ∨ p1.toInt = 2 ∨ p1.toInt = 3 ∨ p1.toInt = 4 ∨ p1.toInt = 5 ∨ p1.toInt = 6 ∨ p1.toInt = 7 ∨ p1.toInt = 8 by omega) with c_1 | c_1 | c_1 | c_1 | c_1 | c_1 | c_1 | c_1 | c_1
  · obtain rfl : p1 = 0 := k_eqL (by decide +kernel) c_1
    refine lv_iload_n hx hb dX7_most_0 rfl (lv_at hl 1 rfl) ?_
    refine lv_iconst (v := 0) hx hb dX7_most_1 (by decide +kernel) ?_
    refine lv_bipush (v := 8) hx hb dX7_most_2 (by decide +kernel) ?_
    refine k_ci (wc := []) (wr := [(p0, .inr (7, oM p3 i7 j7)), ((p3 49), .inl (cI, 22, .inl (fun _ => 0))), ((p3 50), .inl (cI, 22, .inl (fun _ => 0))), ((p3 72), .inl (cI, 9216, .inl (fun _ => 0))), ((p3 14), .inl (cI, 2, .inl (fun _ => 0))), ((p3 18), .inl (cI, 2, .inl (fun _ => 0)))]) (fun hPc hDc hFc => va_runS (As := [.int 0, .int 0, .int 8]) (rest := []) ⟨hx, hb, hml, hown, hts⟩ (c_X7_is_v6 l dC dI cI cJ cZ cM H.size) (va_cwS 3 hts gX7_most_X7_is rfl rfl rfl (by decide +kernel) ⟨(Nat.le_of_ble_eq_true rfl), (Nat.le_of_ble_eq_true rfl)⟩) (k_pS hPc hDc hK hN hC hS hFc) rfl rfl hl.1 rfl (lv_room (Nat.le_of_ble_eq_true rfl)) dX7_most_4 ⟨(Nat.le_of_ble_eq_true rfl), (Nat.le_of_ble_eq_true rfl)⟩) hP hD hS hA [] [0, 1, 2, 3, 4, 5] rfl rfl rfl rfl (by decide) (fun _ => rfl) 0 0 rfl rfl (fun r_2 u_3 H locs hw hP hD hS => ?_)
    obtain rfl : r_2 = 1 := hw
    have hP : va_P (dC, dI) vwCl [(p0, .inr (7, oM p3 i7 j7)), ((p3 49), .inl (cI, 22, .inl (fun _ => 0))), ((p3 50), .inl (cI, 22, .inl (fun _ => 0))), ((p3 72), .inl (cI, 9216, .inl (fun _ => 0))), ((p3 14), .inl (cI, 2, .inl (fun _ => 0))), ((p3 18), .inl (cI, 2, .inl (fun _ => 0)))] H := hP
    have hD : va_D A [(p0, .inr (7, oM p3 i7 j7)), ((p3 49), .inl (cI, 22, .inl (fun _ => 0))), ((p3 50), .inl (cI, 22, .inl (fun _ => 0))), ((p3 72), .inl (cI, 9216, .inl (fun _ => 0))), ((p3 14), .inl (cI, 2, .inl (fun _ => 0))), ((p3 18), .inl (cI, 2, .inl (fun _ => 0)))] := hD
    refine lv_if_eq (tgt := 19) hx hb dX7_most_7 (by decide) (fun q9 => absurd q9 (by decide +kernel)) (fun _ => ?_)
    refine lv_iload_n hx hb dX7_most_10 rfl (lv_at hl 2 rfl) ?_
    refine lv_iconst (v := 0) hx hb dX7_most_11 (by decide +kernel) ?_
    refine lv_iconst (v := 3) hx hb dX7_most_12 (by decide +kernel) ?_
    refine k_ci (wc := []) (wr := [(p0, .inr (7, oM p3 i7 j7)), ((p3 49), .inl (cI, 22, .inl (fun _ => 0))), ((p3 50), .inl (cI, 22, .inl (fun _ => 0))), ((p3 72), .inl (cI, 9216, .inl (fun _ => 0))), ((p3 14), .inl (cI, 2, .inl (fun _ => 0))), ((p3 18), .inl (cI, 2, .inl (fun _ => 0)))]) (fun hPc hDc hFc => va_runS (As := [.int p2, .int 0, .int 3]) (rest := []) ⟨hx, hb, hml, hown, hts⟩ (c_X7_is_v21 l dC dI cI cJ cZ cM p2 (by omega) (by omega) H.size) (va_cwS 3 hts gX7_most_X7_is rfl rfl rfl (by decide +kernel) ⟨(Nat.le_of_ble_eq_true rfl), (Nat.le_of_ble_eq_true rfl)⟩) (k_pS hPc hDc hK hN hC hS hFc) rfl rfl hl.1 rfl (lv_room (Nat.le_of_ble_eq_true rfl)) dX7_most_13 ⟨(Nat.le_of_ble_eq_true rfl), (Nat.le_of_ble_eq_true rfl)⟩) hP hD hS hA [] [0, 1, 2, 3, 4, 5] rfl rfl rfl rfl (by decide) (fun _ => rfl) 0 0 rfl rfl (fun r_4 u_5 H locs hw hP hD hS => ?_)
    obtain rfl : r_4 = 1 := hw
    have hP : va_P (dC, dI) vwCl [(p0, .inr (7, oM p3 i7 j7)), ((p3 49), .inl (cI, 22, .inl (fun _ => 0))), ((p3 50), .inl (cI, 22, .inl (fun _ => 0))), ((p3 72), .inl (cI, 9216, .inl (fun _ => 0))), ((p3 14), .inl (cI, 2, .inl (fun _ => 0))), ((p3 18), .inl (cI, 2, .inl (fun _ => 0)))] H := hP
    have hD : va_D A [(p0, .inr (7, oM p3 i7 j7)), ((p3 49), .inl (cI, 22, .inl (fun _ => 0))), ((p3 50), .inl (cI, 22, .inl (fun _ => 0))), ((p3 72), .inl (cI, 9216, .inl (fun _ => 0))), ((p3 14), .inl (cI, 2, .inl (fun _ => 0))), ((p3 18), .inl (cI, 2, .inl (fun _ => 0)))] := hD
    refine lv_if_ne (tgt := 21) hx hb dX7_most_16 (by decide) (fun _ => ?_) (fun q9 => absurd q9 (by decide +kernel))
    refine lv_aload_n hx hb dX7_most_21 rfl (lv_at hl 0 rfl) ?_
    refine k_cv (wc := [(p0, .inr (7, oM p3 i7 j7)), ((p3 49), .inl (cI, 22, .inl (fun _ => 0))), ((p3 50), .inl (cI, 22, .inl (fun _ => 0))), ((p3 72), .inl (cI, 9216, .inl (fun _ => 0))), ((p3 14), .inl (cI, 2, .inl (fun _ => 0))), ((p3 18), .inl (cI, 2, .inl (fun _ => 0)))]) (wr := []) (fun hPc hDc hFc => va_runV (As := []) (rest := []) ⟨hx, hb, hml, hown, hts⟩ (c_X7_climbs_v0 l dC dI cI cJ cZ cM p0 p3 H.size) (cwV 0 hts gX7_most_X7_climbs rfl rfl rfl (by decide +kernel) ⟨(Nat.le_of_ble_eq_true rfl), (Nat.le_of_ble_eq_true rfl)⟩) (k_pV hPc hDc hK hN hC hS hFc hP (q0 := 0) (ci := 7) rfl rfl) rfl rfl hl.1 rfl (lv_room (Nat.le_of_ble_eq_true rfl)) dX7_most_22 ⟨(Nat.le_of_ble_eq_true rfl), (Nat.le_of_ble_eq_true rfl)⟩) hP hD hS hA [0, 1, 2, 3, 4, 5] [] rfl rfl rfl rfl (by decide) (fun _ => rfl) 0 0 rfl rfl (fun u_7 H locs hw hP hD hS => ?_)
    have hP : va_P (dC, dI) vwCl [(p0, .inr (7, oM p3 i7 j7)), ((p3 49), .inl (cI, 22, .inl (fun _ => 0))), ((p3 50), .inl (cI, 22, .inl (fun _ => 0))), ((p3 72), .inl (cI, 9216, .inl (upd (fun _ => (-1)) 0 0))), ((p3 14), .inl (cI, 2, .inl (fun _ => 0))), ((p3 18), .inl (cI, 2, .inl (fun _ => 0)))] H := hP
    have hD : va_D A [(p0, .inr (7, oM p3 i7 j7)), ((p3 49), .inl (cI, 22, .inl (fun _ => 0))), ((p3 50), .inl (cI, 22, .inl (fun _ => 0))), ((p3 72), .inl (cI, 9216, .inl (upd (fun _ => (-1)) 0 0))), ((p3 14), .inl (cI, 2, .inl (fun _ => 0))), ((p3 18), .inl (cI, 2, .inl (fun _ => 0)))] := hD
    refine lv_aload_n hx hb dX7_most_25 rfl (lv_at hl 0 rfl) ?_
    refine k_ci (wc := [(p0, .inr (7, oM p3 i7 j7)), ((p3 14), .inl (cI, 2, .inl (fun _ => 0)))]) (wr := [((p3 49), .inl (cI, 22, .inl (fun _ => 0))), ((p3 50), .inl (cI, 22, .inl (fun _ => 0))), ((p3 72), .inl (cI, 9216, .inl (upd (fun _ => (-1)) 0 0))), ((p3 18), .inl (cI, 2, .inl (fun _ => 0)))]) (fun hPc hDc hFc => va_runV (As := []) (rest := []) ⟨hx, hb, hml, hown, hts⟩ (c_X7_briefOnes_v2 l dC dI cI cJ cZ cM p0 p3 H.size) (cwV 0 hts gX7_most_X7_briefOnes rfl rfl rfl (by decide +kernel) ⟨(Nat.le_of_ble_eq_true rfl), (Nat.le_of_ble_eq_true rfl)⟩) (k_pV hPc hDc hK hN hC hS hFc hP (q0 := 0) (ci := 7) rfl rfl) rfl rfl hl.1 rfl (lv_room (Nat.le_of_ble_eq_true rfl)) dX7_most_26 ⟨(Nat.le_of_ble_eq_true rfl), (Nat.le_of_ble_eq_true rfl)⟩) hP hD hS hA [0, 4] [1, 2, 3, 5] rfl rfl rfl rfl (by decide) (fun _ => rfl) 0 0 rfl rfl (fun r_8 u_9 H locs hw hP hD hS => ?_)
    obtain rfl : r_8 = 0 := hw
    have hP : va_P (dC, dI) vwCl [((p3 49), .inl (cI, 22, .inl (fun _ => 0))), ((p3 50), .inl (cI, 22, .inl (fun _ => 0))), ((p3 72), .inl (cI, 9216, .inl (upd (fun _ => (-1)) 0 0))), ((p3 18), .inl (cI, 2, .inl (fun _ => 0))), (p0, .inr (7, oM p3 i7 j7)), ((p3 14), .inl (cI, 2, .inl (fun _ => 0)))] H := hP
    have hD : va_D A [((p3 49), .inl (cI, 22, .inl (fun _ => 0))), ((p3 50), .inl (cI, 22, .inl (fun _ => 0))), ((p3 72), .inl (cI, 9216, .inl (upd (fun _ => (-1)) 0 0))), ((p3 18), .inl (cI, 2, .inl (fun _ => 0))), (p0, .inr (7, oM p3 i7 j7)), ((p3 14), .inl (cI, 2, .inl (fun _ => 0)))] := hD
    refine lv_iconst (v := (-1)) hx hb dX7_most_29 (by decide +kernel) ?_
    refine lv_ixor hx hb dX7_most_30 ?_
    refine k_int (v := (-1)) (by decide +kernel) ?_
    refine lv_istore_n (lv' := [(3, .int (-1)), (0, .ref p0), (1, .int 0), (2, .int p2)]) hx hb dX7_most_31 rfl hl (by decide) rfl (fun ls hl => ?_)
    refine lv_aload_n hx hb dX7_most_32 rfl (lv_at hl 1 rfl) ?_
    refine lv_iconst (v := (-1)) hx hb dX7_most_33 (by decide +kernel) ?_
    refine k_put (D := (dC, dI)) (ci := 7) (v := .int (-1)) (C := RX7) (T := TX7) (N := 92) (ws' := [((p3 49), .inl (cI, 22, .inl (fun _ => 0))), ((p3 50), .inl (cI, 22, .inl (fun _ => 0))), ((p3 72), .inl (cI, 9216, .inl (upd (fun _ => (-1)) 0 0))), ((p3 18), .inl (cI, 2, .inl (fun _ => 0))), (p0, .inr (7, oM p3 (upd i7 75 (-1)) j7)), ((p3 14), .inl (cI, 2, .inl (fun _ => 0)))]) hx hb hts hinX7 tyX7 tyX7_ok nmX7 hown hK hP hD hS 4 rfl rfl 75 (by decide) w_0 rfl rfl rfl rfl (Nat.le_of_ble_eq_true rfl) rfl dX7_most_34 (fun H locs hP hD hS => ?_)
    refine lv_iconst (v := (-1)) hx hb dX7_most_37 (by decide +kernel) ?_
    refine lv_istore (lv' := [(4, .int (-1)), (3, .int (-1)), (0, .ref p0), (1, .int 0), (2, .int p2)]) hx hb dX7_most_38 hl (by decide) rfl (fun ls hl => ?_)
    refine lv_iconst (v := 0) hx hb dX7_most_40 (by decide +kernel) ?_
    refine lv_istore (lv' := [(5, .int 0), (4, .int (-1)), (3, .int (-1)), (0, .ref p0), (1, .int 0), (2, .int p2)]) hx hb dX7_most_41 hl (by decide) rfl (fun ls hl => ?_)
    refine lv_iload hx hb dX7_most_43 (lv_at hl 0 rfl) ?_
    refine lv_iload_n hx hb dX7_most_45 rfl (lv_at hl 4 rfl) ?_
    refine lv_icmp_gt (tgt := 166) hx hb dX7_most_46 (by decide) (fun q9 => absurd q9 (by decide +kernel)) (fun _ => ?_)
    refine lv_iconst (v := 0) hx hb dX7_most_49 (by decide +kernel) ?_
    refine lv_istore (lv' := [(6, .int 0), (5, .int 0), (4, .int (-1)), (3, .int (-1)), (0, .ref p0), (1, .int 0), (2, .int p2)]) hx hb dX7_most_50 hl (by decide) rfl (fun ls hl => ?_)
    refine lv_iload hx hb dX7_most_52 (lv_at hl 0 rfl) ?_
    refine lv_iconst (v := 1) hx hb dX7_most_54 (by decide +kernel) ?_
    refine lv_aload_n hx hb dX7_most_55 rfl (lv_at hl 4 rfl) ?_
    refine k_get (D := (dC, dI)) (ci := 7) (v := .ref (p3 14)) (C := RX7) (T := TX7) (N := 92) hx hb hts hinX7 hown hK hP 4 rfl rfl 14 (by decide) w_1 rfl rfl dX7_most_56 ?_
    refine lv_aload_n hx hb dX7_most_59 rfl (lv_at hl 4 rfl) ?_
    refine k_get (D := (dC, dI)) (ci := 7) (v := .int 0) (C := RX7) (T := TX7) (N := 92) hx hb hts hinX7 hown hK hP 4 rfl rfl 13 (by decide) w_2 rfl rfl dX7_most_60 ?_
    refine k_iald (v := 0) hx hb hK hP 5 0 0 rfl rfl rfl (Nat.le_of_ble_eq_true rfl) (Nat.le_of_ble_eq_true rfl) rfl dX7_most_63 ?_
    refine lv_ishl hx hb dX7_most_64 ?_
    refine k_int (v := 1) (by decide +kernel) ?_
    refine lv_icmp_ge (tgt := 160) hx hb dX7_most_65 (by decide) (fun q9 => absurd q9 (by decide +kernel)) (fun _ => ?_)
    refine lv_aload_n hx hb dX7_most_68 rfl (lv_at hl 4 rfl) ?_
    refine k_get (D := (dC, dI)) (ci := 7) (v := .ref (p3 72)) (C := RX7) (T := TX7) (N := 92) hx hb hts hinX7 hown hK hP 4 rfl rfl 72 (by decide) w_3 rfl rfl dX7_most_69 ?_
    refine lv_sipush (v := 1024) hx hb dX7_most_72 (by decide +kernel) ?_
    refine lv_iload hx hb dX7_most_75 (lv_at hl 1 rfl) ?_
    refine lv_imul hx hb dX7_most_77 ?_
    refine k_int (v := 0) (by decide +kernel) ?_
    refine lv_iload hx hb dX7_most_78 (lv_at hl 0 rfl) ?_
    refine lv_iadd hx hb dX7_most_80 ?_
    refine k_int (v := 0) (by decide +kernel) ?_
    refine k_iald (v := 0) hx hb hK hP 2 0 0 rfl rfl rfl (Nat.le_of_ble_eq_true rfl) (Nat.le_of_ble_eq_true rfl) rfl dX7_most_81 ?_
    refine lv_istore (lv' := [(7, .int 0), (6, .int 0), (5, .int 0), (4, .int (-1)), (3, .int (-1)), (0, .ref p0), (1, .int 0), (2, .int p2)]) hx hb dX7_most_82 hl (by decide) rfl (fun ls hl => ?_)
    refine lv_iload hx hb dX7_most_84 (lv_at hl 0 rfl) ?_
    refine lv_iconst (v := (-1)) hx hb dX7_most_86 (by decide +kernel) ?_
    refine lv_icmp_ne (tgt := 93) hx hb dX7_most_87 (by decide) (fun _ => ?_) (fun q9 => absurd q9 (by decide +kernel))
    refine lv_aload_n hx hb dX7_most_93 rfl (lv_at hl 5 rfl) ?_
    refine lv_iload hx hb dX7_most_94 (lv_at hl 1 rfl) ?_
    refine lv_iload_n hx hb dX7_most_96 rfl (lv_at hl 4 rfl) ?_
    refine lv_iand hx hb dX7_most_97 ?_
    refine k_int (v := 0) (by decide +kernel) ?_
    refine k_ci (wc := [(p0, .inr (7, oM p3 (upd i7 75 (-1)) j7)), ((p3 14), .inl (cI, 2, .inl (fun _ => 0)))]) (wr := [((p3 49), .inl (cI, 22, .inl (fun _ => 0))), ((p3 50), .inl (cI, 22, .inl (fun _ => 0))), ((p3 72), .inl (cI, 9216, .inl (upd (fun _ => (-1)) 0 0))), ((p3 18), .inl (cI, 2, .inl (fun _ => 0)))]) (fun hPc hDc hFc => va_runV (As := [.int 0]) (rest := []) ⟨hx, hb, hml, hown, hts⟩ (c_X7_worthOf_v1 l dC dI cI cJ cZ cM p0 p3 H.size) (cwV 1 hts gX7_most_X7_worthOf rfl rfl rfl (by decide +kernel) ⟨(Nat.le_of_ble_eq_true rfl), (Nat.le_of_ble_eq_true rfl)⟩) (k_pV hPc hDc hK hN hC hS hFc hP (q0 := 4) (ci := 7) rfl rfl) rfl rfl hl.1 rfl (lv_room (Nat.le_of_ble_eq_true rfl)) dX7_most_98 ⟨(Nat.le_of_ble_eq_true rfl), (Nat.le_of_ble_eq_true rfl)⟩) hP hD hS hA [4, 5] [0, 1, 2, 3] rfl rfl rfl rfl (by decide) (fun _ => rfl) 0 0 rfl rfl (fun r_10 u_11 H locs hw hP hD hS => ?_)
    obtain rfl : r_10 = 0 := hw
    have hP : va_P (dC, dI) vwCl [((p3 49), .inl (cI, 22, .inl (fun _ => 0))), ((p3 50), .inl (cI, 22, .inl (fun _ => 0))), ((p3 72), .inl (cI, 9216, .inl (upd (fun _ => (-1)) 0 0))), ((p3 18), .inl (cI, 2, .inl (fun _ => 0))), (p0, .inr (7, oM p3 (upd i7 75 (-1)) j7)), ((p3 14), .inl (cI, 2, .inl (fun _ => 0)))] H := hP
    have hD : va_D A [((p3 49), .inl (cI, 22, .inl (fun _ => 0))), ((p3 50), .inl (cI, 22, .inl (fun _ => 0))), ((p3 72), .inl (cI, 9216, .inl (upd (fun _ => (-1)) 0 0))), ((p3 18), .inl (cI, 2, .inl (fun _ => 0))), (p0, .inr (7, oM p3 (upd i7 75 (-1)) j7)), ((p3 14), .inl (cI, 2, .inl (fun _ => 0)))] := hD
    refine lv_istore (lv' := [(8, .int 0), (7, .int 0), (6, .int 0), (5, .int 0), (4, .int (-1)), (3, .int (-1)), (0, .ref p0), (1, .int 0), (2, .int p2)]) hx hb dX7_most_101 hl (by decide) rfl (fun ls hl => ?_)
    refine lv_iload hx hb dX7_most_103 (lv_at hl 0 rfl) ?_
    refine lv_iload hx hb dX7_most_105 (lv_at hl 4 rfl) ?_
    refine lv_icmp_lt (tgt := 154) hx hb dX7_most_107 (by decide) (fun q9 => absurd q9 (by decide +kernel)) (fun _ => ?_)
    refine lv_iload hx hb dX7_most_110 (lv_at hl 0 rfl) ?_
    refine lv_iload hx hb dX7_most_112 (lv_at hl 4 rfl) ?_
    refine lv_icmp_ne (tgt := 138) hx hb dX7_most_114 (by decide) (fun _ => ?_) (fun q9 => absurd q9 (by decide +kernel))
    refine lv_iload hx hb dX7_most_138 (lv_at hl 0 rfl) ?_
    refine lv_istore (lv' := [(4, .int 0), (8, .int 0), (7, .int 0), (6, .int 0), (5, .int 0), (3, .int (-1)), (0, .ref p0), (1, .int 0), (2, .int p2)]) hx hb dX7_most_140 hl (by decide) rfl (fun ls hl => ?_)
    refine lv_aload_n hx hb dX7_most_142 rfl (lv_at hl 6 rfl) ?_
    refine lv_iload hx hb dX7_most_143 (lv_at hl 4 rfl) ?_
    refine k_put (D := (dC, dI)) (ci := 7) (v := .int 0) (C := RX7) (T := TX7) (N := 92) (ws' := [((p3 49), .inl (cI, 22, .inl (fun _ => 0))), ((p3 50), .inl (cI, 22, .inl (fun _ => 0))), ((p3 72), .inl (cI, 9216, .inl (upd (fun _ => (-1)) 0 0))), ((p3 18), .inl (cI, 2, .inl (fun _ => 0))), (p0, .inr (7, oM p3 (upd i7 75 0) j7)), ((p3 14), .inl (cI, 2, .inl (fun _ => 0)))]) hx hb hts hinX7 tyX7 tyX7_ok nmX7 hown hK hP hD hS 4 rfl rfl 75 (by decide) w_0 rfl rfl rfl rfl (Nat.le_of_ble_eq_true rfl) rfl dX7_most_145 (fun H locs hP hD hS => ?_)
    refine lv_aload_n hx hb dX7_most_148 rfl (lv_at hl 6 rfl) ?_
    refine lv_iload hx hb dX7_most_149 (lv_at hl 3 rfl) ?_
    refine k_put (D := (dC, dI)) (ci := 7) (v := .int 0) (C := RX7) (T := TX7) (N := 92) (ws' := [((p3 49), .inl (cI, 22, .inl (fun _ => 0))), ((p3 50), .inl (cI, 22, .inl (fun _ => 0))), ((p3 72), .inl (cI, 9216, .inl (upd (fun _ => (-1)) 0 0))), ((p3 18), .inl (cI, 2, .inl (fun _ => 0))), (p0, .inr (7, oM p3 (upd (upd i7 75 0) 76 0) j7)), ((p3 14), .inl (cI, 2, .inl (fun _ => 0)))]) hx hb hts hinX7 tyX7 tyX7_ok nmX7 hown hK hP hD hS 4 rfl rfl 76 (by decide) w_4 rfl rfl rfl rfl (Nat.le_of_ble_eq_true rfl) rfl dX7_most_151 (fun H locs hP hD hS => ?_)
    refine lv_iinc (v := 1) (lv' := [(6, .int 1), (4, .int 0), (8, .int 0), (7, .int 0), (5, .int 0), (3, .int (-1)), (0, .ref p0), (1, .int 0), (2, .int p2)]) hx hb dX7_most_154 hl (k := 3) rfl (by decide +kernel) (by decide) rfl (fun ls hl => ?_)
    refine lv_goto (tgt := 52) hx hb dX7_most_157 (by decide) ?_
    refine lv_iload hx hb dX7_most_52 (lv_at hl 0 rfl) ?_
    refine lv_iconst (v := 1) hx hb dX7_most_54 (by decide +kernel) ?_
    refine lv_aload_n hx hb dX7_most_55 rfl (lv_at hl 6 rfl) ?_
    refine k_get (D := (dC, dI)) (ci := 7) (v := .ref (p3 14)) (C := RX7) (T := TX7) (N := 92) hx hb hts hinX7 hown hK hP 4 rfl rfl 14 (by decide) w_1 rfl rfl dX7_most_56 ?_
    refine lv_aload_n hx hb dX7_most_59 rfl (lv_at hl 6 rfl) ?_
    refine k_get (D := (dC, dI)) (ci := 7) (v := .int 0) (C := RX7) (T := TX7) (N := 92) hx hb hts hinX7 hown hK hP 4 rfl rfl 13 (by decide) w_2 rfl rfl dX7_most_60 ?_
    refine k_iald (v := 0) hx hb hK hP 5 0 0 rfl rfl rfl (Nat.le_of_ble_eq_true rfl) (Nat.le_of_ble_eq_true rfl) rfl dX7_most_63 ?_
    refine lv_ishl hx hb dX7_most_64 ?_
    refine k_int (v := 1) (by decide +kernel) ?_
    refine lv_icmp_ge (tgt := 160) hx hb dX7_most_65 (by decide) (fun _ => ?_) (fun q9 => absurd q9 (by decide +kernel))
    refine lv_iinc (v := 1) (lv' := [(5, .int 1), (6, .int 1), (4, .int 0), (8, .int 0), (7, .int 0), (3, .int (-1)), (0, .ref p0), (1, .int 0), (2, .int p2)]) hx hb dX7_most_160 hl (k := 4) rfl (by decide +kernel) (by decide) rfl (fun ls hl => ?_)
    refine lv_goto (tgt := 43) hx hb dX7_most_163 (by decide) ?_
    refine lv_iload hx hb dX7_most_43 (lv_at hl 0 rfl) ?_
    refine lv_iload_n hx hb dX7_most_45 rfl (lv_at hl 7 rfl) ?_
    refine lv_icmp_gt (tgt := 166) hx hb dX7_most_46 (by decide) (fun _ => ?_) (fun q9 => absurd q9 (by decide +kernel))
    refine lv_iload_n hx hb dX7_most_166 rfl (lv_at hl 8 rfl) ?_
    refine lv_if_ne (tgt := 175) hx hb dX7_most_167 (by decide) (fun c_12 => ?_) (fun c_12 => ?_)
    · have c_12 : ¬ p2.toInt = 0 := k_eqF rfl (by decide +kernel) c_12
      refine lv_iload_n hx hb dX7_most_175 rfl (lv_at hl 8 rfl) ?_
      refine lv_iconst (v := 1) hx hb dX7_most_176 (by decide +kernel) ?_
      refine lv_icmp_ne (tgt := 187) hx hb dX7_most_177 (by decide) (fun c_13 => ?_) (fun c_13 => ?_)
      · have c_13 : ¬ p2.toInt = 1 := k_eqF rfl (by decide +kernel) c_13
        exfalso; omega
      · have c_13 : p2.toInt = 1 := k_eqT rfl (by decide +kernel) c_13
        refine lv_aload_n hx hb dX7_most_180 rfl (lv_at hl 6 rfl) ?_
        refine k_get (D := (dC, dI)) (ci := 7) (v := .int 0) (C := RX7) (T := TX7) (N := 92) hx hb hts hinX7 hown hK hP 4 rfl rfl 75 (by decide) w_0 rfl rfl dX7_most_181 ?_
        refine lv_goto (tgt := 203) hx hb dX7_most_184 (by decide) ?_
        exact k_ri B hP hD hS dX7_most_203 () [4, 0, 1, 2, 5, 3] rfl rfl rfl (Nat.le_of_ble_eq_true rfl) (Nat.le_of_ble_eq_true rfl) rfl
    · have c_12 : p2.toInt = 0 := k_eqT rfl (by decide +kernel) c_12
      exfalso; omega
  · obtain rfl : p1 = 1 := k_eqL (by decide +kernel) c_1
    refine lv_iload_n hx hb dX7_most_0 rfl (lv_at hl 1 rfl) ?_
    refine lv_iconst (v := 0) hx hb dX7_most_1 (by decide +kernel) ?_
    refine lv_bipush (v := 8) hx hb dX7_most_2 (by decide +kernel) ?_
    refine k_ci (wc := []) (wr := [(p0, .inr (7, oM p3 i7 j7)), ((p3 49), .inl (cI, 22, .inl (fun _ => 0))), ((p3 50), .inl (cI, 22, .inl (fun _ => 0))), ((p3 72), .inl (cI, 9216, .inl (fun _ => 0))), ((p3 14), .inl (cI, 2, .inl (fun _ => 0))), ((p3 18), .inl (cI, 2, .inl (fun _ => 0)))]) (fun hPc hDc hFc => va_runS (As := [.int 1, .int 0, .int 8]) (rest := []) ⟨hx, hb, hml, hown, hts⟩ (c_X7_is_v7 l dC dI cI cJ cZ cM H.size) (va_cwS 3 hts gX7_most_X7_is rfl rfl rfl (by decide +kernel) ⟨(Nat.le_of_ble_eq_true rfl), (Nat.le_of_ble_eq_true rfl)⟩) (k_pS hPc hDc hK hN hC hS hFc) rfl rfl hl.1 rfl (lv_room (Nat.le_of_ble_eq_true rfl)) dX7_most_4 ⟨(Nat.le_of_ble_eq_true rfl), (Nat.le_of_ble_eq_true rfl)⟩) hP hD hS hA [] [0, 1, 2, 3, 4, 5] rfl rfl rfl rfl (by decide) (fun _ => rfl) 0 0 rfl rfl (fun r_14 u_15 H locs hw hP hD hS => ?_)
    obtain rfl : r_14 = 1 := hw
    have hP : va_P (dC, dI) vwCl [(p0, .inr (7, oM p3 i7 j7)), ((p3 49), .inl (cI, 22, .inl (fun _ => 0))), ((p3 50), .inl (cI, 22, .inl (fun _ => 0))), ((p3 72), .inl (cI, 9216, .inl (fun _ => 0))), ((p3 14), .inl (cI, 2, .inl (fun _ => 0))), ((p3 18), .inl (cI, 2, .inl (fun _ => 0)))] H := hP
    have hD : va_D A [(p0, .inr (7, oM p3 i7 j7)), ((p3 49), .inl (cI, 22, .inl (fun _ => 0))), ((p3 50), .inl (cI, 22, .inl (fun _ => 0))), ((p3 72), .inl (cI, 9216, .inl (fun _ => 0))), ((p3 14), .inl (cI, 2, .inl (fun _ => 0))), ((p3 18), .inl (cI, 2, .inl (fun _ => 0)))] := hD
    refine lv_if_eq (tgt := 19) hx hb dX7_most_7 (by decide) (fun q9 => absurd q9 (by decide +kernel)) (fun _ => ?_)
    refine lv_iload_n hx hb dX7_most_10 rfl (lv_at hl 2 rfl) ?_
    refine lv_iconst (v := 0) hx hb dX7_most_11 (by decide +kernel) ?_
    refine lv_iconst (v := 3) hx hb dX7_most_12 (by decide +kernel) ?_
    refine k_ci (wc := []) (wr := [(p0, .inr (7, oM p3 i7 j7)), ((p3 49), .inl (cI, 22, .inl (fun _ => 0))), ((p3 50), .inl (cI, 22, .inl (fun _ => 0))), ((p3 72), .inl (cI, 9216, .inl (fun _ => 0))), ((p3 14), .inl (cI, 2, .inl (fun _ => 0))), ((p3 18), .inl (cI, 2, .inl (fun _ => 0)))]) (fun hPc hDc hFc => va_runS (As := [.int p2, .int 0, .int 3]) (rest := []) ⟨hx, hb, hml, hown, hts⟩ (c_X7_is_v21 l dC dI cI cJ cZ cM p2 (by omega) (by omega) H.size) (va_cwS 3 hts gX7_most_X7_is rfl rfl rfl (by decide +kernel) ⟨(Nat.le_of_ble_eq_true rfl), (Nat.le_of_ble_eq_true rfl)⟩) (k_pS hPc hDc hK hN hC hS hFc) rfl rfl hl.1 rfl (lv_room (Nat.le_of_ble_eq_true rfl)) dX7_most_13 ⟨(Nat.le_of_ble_eq_true rfl), (Nat.le_of_ble_eq_true rfl)⟩) hP hD hS hA [] [0, 1, 2, 3, 4, 5] rfl rfl rfl rfl (by decide) (fun _ => rfl) 0 0 rfl rfl (fun r_16 u_17 H locs hw hP hD hS => ?_)
    obtain rfl : r_16 = 1 := hw
    have hP : va_P (dC, dI) vwCl [(p0, .inr (7, oM p3 i7 j7)), ((p3 49), .inl (cI, 22, .inl (fun _ => 0))), ((p3 50), .inl (cI, 22, .inl (fun _ => 0))), ((p3 72), .inl (cI, 9216, .inl (fun _ => 0))), ((p3 14), .inl (cI, 2, .inl (fun _ => 0))), ((p3 18), .inl (cI, 2, .inl (fun _ => 0)))] H := hP
    have hD : va_D A [(p0, .inr (7, oM p3 i7 j7)), ((p3 49), .inl (cI, 22, .inl (fun _ => 0))), ((p3 50), .inl (cI, 22, .inl (fun _ => 0))), ((p3 72), .inl (cI, 9216, .inl (fun _ => 0))), ((p3 14), .inl (cI, 2, .inl (fun _ => 0))), ((p3 18), .inl (cI, 2, .inl (fun _ => 0)))] := hD
    refine lv_if_ne (tgt := 21) hx hb dX7_most_16 (by decide) (fun _ => ?_) (fun q9 => absurd q9 (by decide +kernel))
    refine lv_aload_n hx hb dX7_most_21 rfl (lv_at hl 0 rfl) ?_
    refine k_cv (wc := [(p0, .inr (7, oM p3 i7 j7)), ((p3 49), .inl (cI, 22, .inl (fun _ => 0))), ((p3 50), .inl (cI, 22, .inl (fun _ => 0))), ((p3 72), .inl (cI, 9216, .inl (fun _ => 0))), ((p3 14), .inl (cI, 2, .inl (fun _ => 0))), ((p3 18), .inl (cI, 2, .inl (fun _ => 0)))]) (wr := []) (fun hPc hDc hFc => va_runV (As := []) (rest := []) ⟨hx, hb, hml, hown, hts⟩ (c_X7_climbs_v0 l dC dI cI cJ cZ cM p0 p3 H.size) (cwV 0 hts gX7_most_X7_climbs rfl rfl rfl (by decide +kernel) ⟨(Nat.le_of_ble_eq_true rfl), (Nat.le_of_ble_eq_true rfl)⟩) (k_pV hPc hDc hK hN hC hS hFc hP (q0 := 0) (ci := 7) rfl rfl) rfl rfl hl.1 rfl (lv_room (Nat.le_of_ble_eq_true rfl)) dX7_most_22 ⟨(Nat.le_of_ble_eq_true rfl), (Nat.le_of_ble_eq_true rfl)⟩) hP hD hS hA [0, 1, 2, 3, 4, 5] [] rfl rfl rfl rfl (by decide) (fun _ => rfl) 0 0 rfl rfl (fun u_19 H locs hw hP hD hS => ?_)
    have hP : va_P (dC, dI) vwCl [(p0, .inr (7, oM p3 i7 j7)), ((p3 49), .inl (cI, 22, .inl (fun _ => 0))), ((p3 50), .inl (cI, 22, .inl (fun _ => 0))), ((p3 72), .inl (cI, 9216, .inl (upd (fun _ => (-1)) 0 0))), ((p3 14), .inl (cI, 2, .inl (fun _ => 0))), ((p3 18), .inl (cI, 2, .inl (fun _ => 0)))] H := hP
    have hD : va_D A [(p0, .inr (7, oM p3 i7 j7)), ((p3 49), .inl (cI, 22, .inl (fun _ => 0))), ((p3 50), .inl (cI, 22, .inl (fun _ => 0))), ((p3 72), .inl (cI, 9216, .inl (upd (fun _ => (-1)) 0 0))), ((p3 14), .inl (cI, 2, .inl (fun _ => 0))), ((p3 18), .inl (cI, 2, .inl (fun _ => 0)))] := hD
    refine lv_aload_n hx hb dX7_most_25 rfl (lv_at hl 0 rfl) ?_
    refine k_ci (wc := [(p0, .inr (7, oM p3 i7 j7)), ((p3 14), .inl (cI, 2, .inl (fun _ => 0)))]) (wr := [((p3 49), .inl (cI, 22, .inl (fun _ => 0))), ((p3 50), .inl (cI, 22, .inl (fun _ => 0))), ((p3 72), .inl (cI, 9216, .inl (upd (fun _ => (-1)) 0 0))), ((p3 18), .inl (cI, 2, .inl (fun _ => 0)))]) (fun hPc hDc hFc => va_runV (As := []) (rest := []) ⟨hx, hb, hml, hown, hts⟩ (c_X7_briefOnes_v2 l dC dI cI cJ cZ cM p0 p3 H.size) (cwV 0 hts gX7_most_X7_briefOnes rfl rfl rfl (by decide +kernel) ⟨(Nat.le_of_ble_eq_true rfl), (Nat.le_of_ble_eq_true rfl)⟩) (k_pV hPc hDc hK hN hC hS hFc hP (q0 := 0) (ci := 7) rfl rfl) rfl rfl hl.1 rfl (lv_room (Nat.le_of_ble_eq_true rfl)) dX7_most_26 ⟨(Nat.le_of_ble_eq_true rfl), (Nat.le_of_ble_eq_true rfl)⟩) hP hD hS hA [0, 4] [1, 2, 3, 5] rfl rfl rfl rfl (by decide) (fun _ => rfl) 0 0 rfl rfl (fun r_20 u_21 H locs hw hP hD hS => ?_)
    obtain rfl : r_20 = 0 := hw
    have hP : va_P (dC, dI) vwCl [((p3 49), .inl (cI, 22, .inl (fun _ => 0))), ((p3 50), .inl (cI, 22, .inl (fun _ => 0))), ((p3 72), .inl (cI, 9216, .inl (upd (fun _ => (-1)) 0 0))), ((p3 18), .inl (cI, 2, .inl (fun _ => 0))), (p0, .inr (7, oM p3 i7 j7)), ((p3 14), .inl (cI, 2, .inl (fun _ => 0)))] H := hP
    have hD : va_D A [((p3 49), .inl (cI, 22, .inl (fun _ => 0))), ((p3 50), .inl (cI, 22, .inl (fun _ => 0))), ((p3 72), .inl (cI, 9216, .inl (upd (fun _ => (-1)) 0 0))), ((p3 18), .inl (cI, 2, .inl (fun _ => 0))), (p0, .inr (7, oM p3 i7 j7)), ((p3 14), .inl (cI, 2, .inl (fun _ => 0)))] := hD
    refine lv_iconst (v := (-1)) hx hb dX7_most_29 (by decide +kernel) ?_
    refine lv_ixor hx hb dX7_most_30 ?_
    refine k_int (v := (-1)) (by decide +kernel) ?_
    refine lv_istore_n (lv' := [(3, .int (-1)), (0, .ref p0), (1, .int 1), (2, .int p2)]) hx hb dX7_most_31 rfl hl (by decide) rfl (fun ls hl => ?_)
    refine lv_aload_n hx hb dX7_most_32 rfl (lv_at hl 1 rfl) ?_
    refine lv_iconst (v := (-1)) hx hb dX7_most_33 (by decide +kernel) ?_
    refine k_put (D := (dC, dI)) (ci := 7) (v := .int (-1)) (C := RX7) (T := TX7) (N := 92) (ws' := [((p3 49), .inl (cI, 22, .inl (fun _ => 0))), ((p3 50), .inl (cI, 22, .inl (fun _ => 0))), ((p3 72), .inl (cI, 9216, .inl (upd (fun _ => (-1)) 0 0))), ((p3 18), .inl (cI, 2, .inl (fun _ => 0))), (p0, .inr (7, oM p3 (upd i7 75 (-1)) j7)), ((p3 14), .inl (cI, 2, .inl (fun _ => 0)))]) hx hb hts hinX7 tyX7 tyX7_ok nmX7 hown hK hP hD hS 4 rfl rfl 75 (by decide) w_0 rfl rfl rfl rfl (Nat.le_of_ble_eq_true rfl) rfl dX7_most_34 (fun H locs hP hD hS => ?_)
    refine lv_iconst (v := (-1)) hx hb dX7_most_37 (by decide +kernel) ?_
    refine lv_istore (lv' := [(4, .int (-1)), (3, .int (-1)), (0, .ref p0), (1, .int 1), (2, .int p2)]) hx hb dX7_most_38 hl (by decide) rfl (fun ls hl => ?_)
    refine lv_iconst (v := 0) hx hb dX7_most_40 (by decide +kernel) ?_
    refine lv_istore (lv' := [(5, .int 0), (4, .int (-1)), (3, .int (-1)), (0, .ref p0), (1, .int 1), (2, .int p2)]) hx hb dX7_most_41 hl (by decide) rfl (fun ls hl => ?_)
    refine lv_iload hx hb dX7_most_43 (lv_at hl 0 rfl) ?_
    refine lv_iload_n hx hb dX7_most_45 rfl (lv_at hl 4 rfl) ?_
    refine lv_icmp_gt (tgt := 166) hx hb dX7_most_46 (by decide) (fun q9 => absurd q9 (by decide +kernel)) (fun _ => ?_)
    refine lv_iconst (v := 0) hx hb dX7_most_49 (by decide +kernel) ?_
    refine lv_istore (lv' := [(6, .int 0), (5, .int 0), (4, .int (-1)), (3, .int (-1)), (0, .ref p0), (1, .int 1), (2, .int p2)]) hx hb dX7_most_50 hl (by decide) rfl (fun ls hl => ?_)
    refine lv_iload hx hb dX7_most_52 (lv_at hl 0 rfl) ?_
    refine lv_iconst (v := 1) hx hb dX7_most_54 (by decide +kernel) ?_
    refine lv_aload_n hx hb dX7_most_55 rfl (lv_at hl 4 rfl) ?_
    refine k_get (D := (dC, dI)) (ci := 7) (v := .ref (p3 14)) (C := RX7) (T := TX7) (N := 92) hx hb hts hinX7 hown hK hP 4 rfl rfl 14 (by decide) w_1 rfl rfl dX7_most_56 ?_
    refine lv_aload_n hx hb dX7_most_59 rfl (lv_at hl 4 rfl) ?_
    refine k_get (D := (dC, dI)) (ci := 7) (v := .int 0) (C := RX7) (T := TX7) (N := 92) hx hb hts hinX7 hown hK hP 4 rfl rfl 13 (by decide) w_2 rfl rfl dX7_most_60 ?_
    refine k_iald (v := 0) hx hb hK hP 5 0 0 rfl rfl rfl (Nat.le_of_ble_eq_true rfl) (Nat.le_of_ble_eq_true rfl) rfl dX7_most_63 ?_
    refine lv_ishl hx hb dX7_most_64 ?_
    refine k_int (v := 1) (by decide +kernel) ?_
    refine lv_icmp_ge (tgt := 160) hx hb dX7_most_65 (by decide) (fun q9 => absurd q9 (by decide +kernel)) (fun _ => ?_)
    refine lv_aload_n hx hb dX7_most_68 rfl (lv_at hl 4 rfl) ?_
    refine k_get (D := (dC, dI)) (ci := 7) (v := .ref (p3 72)) (C := RX7) (T := TX7) (N := 92) hx hb hts hinX7 hown hK hP 4 rfl rfl 72 (by decide) w_3 rfl rfl dX7_most_69 ?_
    refine lv_sipush (v := 1024) hx hb dX7_most_72 (by decide +kernel) ?_
    refine lv_iload hx hb dX7_most_75 (lv_at hl 1 rfl) ?_
    refine lv_imul hx hb dX7_most_77 ?_
    refine k_int (v := 0) (by decide +kernel) ?_
    refine lv_iload hx hb dX7_most_78 (lv_at hl 0 rfl) ?_
    refine lv_iadd hx hb dX7_most_80 ?_
    refine k_int (v := 0) (by decide +kernel) ?_
    refine k_iald (v := 0) hx hb hK hP 2 0 0 rfl rfl rfl (Nat.le_of_ble_eq_true rfl) (Nat.le_of_ble_eq_true rfl) rfl dX7_most_81 ?_
    refine lv_istore (lv' := [(7, .int 0), (6, .int 0), (5, .int 0), (4, .int (-1)), (3, .int (-1)), (0, .ref p0), (1, .int 1), (2, .int p2)]) hx hb dX7_most_82 hl (by decide) rfl (fun ls hl => ?_)
    refine lv_iload hx hb dX7_most_84 (lv_at hl 0 rfl) ?_
    refine lv_iconst (v := (-1)) hx hb dX7_most_86 (by decide +kernel) ?_
    refine lv_icmp_ne (tgt := 93) hx hb dX7_most_87 (by decide) (fun _ => ?_) (fun q9 => absurd q9 (by decide +kernel))
    refine lv_aload_n hx hb dX7_most_93 rfl (lv_at hl 5 rfl) ?_
    refine lv_iload hx hb dX7_most_94 (lv_at hl 1 rfl) ?_
    refine lv_iload_n hx hb dX7_most_96 rfl (lv_at hl 4 rfl) ?_
    refine lv_iand hx hb dX7_most_97 ?_
    refine k_int (v := 0) (by decide +kernel) ?_
    refine k_ci (wc := [(p0, .inr (7, oM p3 (upd i7 75 (-1)) j7)), ((p3 14), .inl (cI, 2, .inl (fun _ => 0)))]) (wr := [((p3 49), .inl (cI, 22, .inl (fun _ => 0))), ((p3 50), .inl (cI, 22, .inl (fun _ => 0))), ((p3 72), .inl (cI, 9216, .inl (upd (fun _ => (-1)) 0 0))), ((p3 18), .inl (cI, 2, .inl (fun _ => 0)))]) (fun hPc hDc hFc => va_runV (As := [.int 0]) (rest := []) ⟨hx, hb, hml, hown, hts⟩ (c_X7_worthOf_v1 l dC dI cI cJ cZ cM p0 p3 H.size) (cwV 1 hts gX7_most_X7_worthOf rfl rfl rfl (by decide +kernel) ⟨(Nat.le_of_ble_eq_true rfl), (Nat.le_of_ble_eq_true rfl)⟩) (k_pV hPc hDc hK hN hC hS hFc hP (q0 := 4) (ci := 7) rfl rfl) rfl rfl hl.1 rfl (lv_room (Nat.le_of_ble_eq_true rfl)) dX7_most_98 ⟨(Nat.le_of_ble_eq_true rfl), (Nat.le_of_ble_eq_true rfl)⟩) hP hD hS hA [4, 5] [0, 1, 2, 3] rfl rfl rfl rfl (by decide) (fun _ => rfl) 0 0 rfl rfl (fun r_22 u_23 H locs hw hP hD hS => ?_)
    obtain rfl : r_22 = 0 := hw
    have hP : va_P (dC, dI) vwCl [((p3 49), .inl (cI, 22, .inl (fun _ => 0))), ((p3 50), .inl (cI, 22, .inl (fun _ => 0))), ((p3 72), .inl (cI, 9216, .inl (upd (fun _ => (-1)) 0 0))), ((p3 18), .inl (cI, 2, .inl (fun _ => 0))), (p0, .inr (7, oM p3 (upd i7 75 (-1)) j7)), ((p3 14), .inl (cI, 2, .inl (fun _ => 0)))] H := hP
    have hD : va_D A [((p3 49), .inl (cI, 22, .inl (fun _ => 0))), ((p3 50), .inl (cI, 22, .inl (fun _ => 0))), ((p3 72), .inl (cI, 9216, .inl (upd (fun _ => (-1)) 0 0))), ((p3 18), .inl (cI, 2, .inl (fun _ => 0))), (p0, .inr (7, oM p3 (upd i7 75 (-1)) j7)), ((p3 14), .inl (cI, 2, .inl (fun _ => 0)))] := hD
    refine lv_istore (lv' := [(8, .int 0), (7, .int 0), (6, .int 0), (5, .int 0), (4, .int (-1)), (3, .int (-1)), (0, .ref p0), (1, .int 1), (2, .int p2)]) hx hb dX7_most_101 hl (by decide) rfl (fun ls hl => ?_)
    refine lv_iload hx hb dX7_most_103 (lv_at hl 0 rfl) ?_
    refine lv_iload hx hb dX7_most_105 (lv_at hl 4 rfl) ?_
    refine lv_icmp_lt (tgt := 154) hx hb dX7_most_107 (by decide) (fun q9 => absurd q9 (by decide +kernel)) (fun _ => ?_)
    refine lv_iload hx hb dX7_most_110 (lv_at hl 0 rfl) ?_
    refine lv_iload hx hb dX7_most_112 (lv_at hl 4 rfl) ?_
    refine lv_icmp_ne (tgt := 138) hx hb dX7_most_114 (by decide) (fun _ => ?_) (fun q9 => absurd q9 (by decide +kernel))
    refine lv_iload hx hb dX7_most_138 (lv_at hl 0 rfl) ?_
    refine lv_istore (lv' := [(4, .int 0), (8, .int 0), (7, .int 0), (6, .int 0), (5, .int 0), (3, .int (-1)), (0, .ref p0), (1, .int 1), (2, .int p2)]) hx hb dX7_most_140 hl (by decide) rfl (fun ls hl => ?_)
    refine lv_aload_n hx hb dX7_most_142 rfl (lv_at hl 6 rfl) ?_
    refine lv_iload hx hb dX7_most_143 (lv_at hl 4 rfl) ?_
    refine k_put (D := (dC, dI)) (ci := 7) (v := .int 0) (C := RX7) (T := TX7) (N := 92) (ws' := [((p3 49), .inl (cI, 22, .inl (fun _ => 0))), ((p3 50), .inl (cI, 22, .inl (fun _ => 0))), ((p3 72), .inl (cI, 9216, .inl (upd (fun _ => (-1)) 0 0))), ((p3 18), .inl (cI, 2, .inl (fun _ => 0))), (p0, .inr (7, oM p3 (upd i7 75 0) j7)), ((p3 14), .inl (cI, 2, .inl (fun _ => 0)))]) hx hb hts hinX7 tyX7 tyX7_ok nmX7 hown hK hP hD hS 4 rfl rfl 75 (by decide) w_0 rfl rfl rfl rfl (Nat.le_of_ble_eq_true rfl) rfl dX7_most_145 (fun H locs hP hD hS => ?_)
    refine lv_aload_n hx hb dX7_most_148 rfl (lv_at hl 6 rfl) ?_
    refine lv_iload hx hb dX7_most_149 (lv_at hl 3 rfl) ?_
    refine k_put (D := (dC, dI)) (ci := 7) (v := .int 0) (C := RX7) (T := TX7) (N := 92) (ws' := [((p3 49), .inl (cI, 22, .inl (fun _ => 0))), ((p3 50), .inl (cI, 22, .inl (fun _ => 0))), ((p3 72), .inl (cI, 9216, .inl (upd (fun _ => (-1)) 0 0))), ((p3 18), .inl (cI, 2, .inl (fun _ => 0))), (p0, .inr (7, oM p3 (upd (upd i7 75 0) 76 0) j7)), ((p3 14), .inl (cI, 2, .inl (fun _ => 0)))]) hx hb hts hinX7 tyX7 tyX7_ok nmX7 hown hK hP hD hS 4 rfl rfl 76 (by decide) w_4 rfl rfl rfl rfl (Nat.le_of_ble_eq_true rfl) rfl dX7_most_151 (fun H locs hP hD hS => ?_)
    refine lv_iinc (v := 1) (lv' := [(6, .int 1), (4, .int 0), (8, .int 0), (7, .int 0), (5, .int 0), (3, .int (-1)), (0, .ref p0), (1, .int 1), (2, .int p2)]) hx hb dX7_most_154 hl (k := 3) rfl (by decide +kernel) (by decide) rfl (fun ls hl => ?_)
    refine lv_goto (tgt := 52) hx hb dX7_most_157 (by decide) ?_
    refine lv_iload hx hb dX7_most_52 (lv_at hl 0 rfl) ?_
    refine lv_iconst (v := 1) hx hb dX7_most_54 (by decide +kernel) ?_
    refine lv_aload_n hx hb dX7_most_55 rfl (lv_at hl 6 rfl) ?_
    refine k_get (D := (dC, dI)) (ci := 7) (v := .ref (p3 14)) (C := RX7) (T := TX7) (N := 92) hx hb hts hinX7 hown hK hP 4 rfl rfl 14 (by decide) w_1 rfl rfl dX7_most_56 ?_
    refine lv_aload_n hx hb dX7_most_59 rfl (lv_at hl 6 rfl) ?_
    refine k_get (D := (dC, dI)) (ci := 7) (v := .int 0) (C := RX7) (T := TX7) (N := 92) hx hb hts hinX7 hown hK hP 4 rfl rfl 13 (by decide) w_2 rfl rfl dX7_most_60 ?_
    refine k_iald (v := 0) hx hb hK hP 5 0 0 rfl rfl rfl (Nat.le_of_ble_eq_true rfl) (Nat.le_of_ble_eq_true rfl) rfl dX7_most_63 ?_
    refine lv_ishl hx hb dX7_most_64 ?_
    refine k_int (v := 1) (by decide +kernel) ?_
    refine lv_icmp_ge (tgt := 160) hx hb dX7_most_65 (by decide) (fun _ => ?_) (fun q9 => absurd q9 (by decide +kernel))
    refine lv_iinc (v := 1) (lv' := [(5, .int 1), (6, .int 1), (4, .int 0), (8, .int 0), (7, .int 0), (3, .int (-1)), (0, .ref p0), (1, .int 1), (2, .int p2)]) hx hb dX7_most_160 hl (k := 4) rfl (by decide +kernel) (by decide) rfl (fun ls hl => ?_)
    refine lv_goto (tgt := 43) hx hb dX7_most_163 (by decide) ?_
    refine lv_iload hx hb dX7_most_43 (lv_at hl 0 rfl) ?_
    refine lv_iload_n hx hb dX7_most_45 rfl (lv_at hl 7 rfl) ?_
    refine lv_icmp_gt (tgt := 166) hx hb dX7_most_46 (by decide) (fun q9 => absurd q9 (by decide +kernel)) (fun _ => ?_)
    refine lv_iconst (v := 0) hx hb dX7_most_49 (by decide +kernel) ?_
    refine lv_istore (lv' := [(6, .int 0), (5, .int 1), (4, .int 0), (8, .int 0), (7, .int 0), (3, .int (-1)), (0, .ref p0), (1, .int 1), (2, .int p2)]) hx hb dX7_most_50 hl (by decide) rfl (fun ls hl => ?_)
    refine lv_iload hx hb dX7_most_52 (lv_at hl 0 rfl) ?_
    refine lv_iconst (v := 1) hx hb dX7_most_54 (by decide +kernel) ?_
    refine lv_aload_n hx hb dX7_most_55 rfl (lv_at hl 6 rfl) ?_
    refine k_get (D := (dC, dI)) (ci := 7) (v := .ref (p3 14)) (C := RX7) (T := TX7) (N := 92) hx hb hts hinX7 hown hK hP 4 rfl rfl 14 (by decide) w_1 rfl rfl dX7_most_56 ?_
    refine lv_aload_n hx hb dX7_most_59 rfl (lv_at hl 6 rfl) ?_
    refine k_get (D := (dC, dI)) (ci := 7) (v := .int 0) (C := RX7) (T := TX7) (N := 92) hx hb hts hinX7 hown hK hP 4 rfl rfl 13 (by decide) w_2 rfl rfl dX7_most_60 ?_
    refine k_iald (v := 0) hx hb hK hP 5 0 0 rfl rfl rfl (Nat.le_of_ble_eq_true rfl) (Nat.le_of_ble_eq_true rfl) rfl dX7_most_63 ?_
    refine lv_ishl hx hb dX7_most_64 ?_
    refine k_int (v := 1) (by decide +kernel) ?_
    refine lv_icmp_ge (tgt := 160) hx hb dX7_most_65 (by decide) (fun q9 => absurd q9 (by decide +kernel)) (fun _ => ?_)
    refine lv_aload_n hx hb dX7_most_68 rfl (lv_at hl 6 rfl) ?_
    refine k_get (D := (dC, dI)) (ci := 7) (v := .ref (p3 72)) (C := RX7) (T := TX7) (N := 92) hx hb hts hinX7 hown hK hP 4 rfl rfl 72 (by decide) w_3 rfl rfl dX7_most_69 ?_
    refine lv_sipush (v := 1024) hx hb dX7_most_72 (by decide +kernel) ?_
    refine lv_iload hx hb dX7_most_75 (lv_at hl 1 rfl) ?_
    refine lv_imul hx hb dX7_most_77 ?_
    refine k_int (v := 1024) (by decide +kernel) ?_
    refine lv_iload hx hb dX7_most_78 (lv_at hl 0 rfl) ?_
    refine lv_iadd hx hb dX7_most_80 ?_
    refine k_int (v := 1024) (by decide +kernel) ?_
    refine k_iald (v := (-1)) hx hb hK hP 2 0 1024 rfl rfl rfl (Nat.le_of_ble_eq_true rfl) (Nat.le_of_ble_eq_true rfl) rfl dX7_most_81 ?_
    refine lv_istore (lv' := [(7, .int (-1)), (6, .int 0), (5, .int 1), (4, .int 0), (8, .int 0), (3, .int (-1)), (0, .ref p0), (1, .int 1), (2, .int p2)]) hx hb dX7_most_82 hl (by decide) rfl (fun ls hl => ?_)
    refine lv_iload hx hb dX7_most_84 (lv_at hl 0 rfl) ?_
    refine lv_iconst (v := (-1)) hx hb dX7_most_86 (by decide +kernel) ?_
    refine lv_icmp_ne (tgt := 93) hx hb dX7_most_87 (by decide) (fun q9 => absurd q9 (by decide +kernel)) (fun _ => ?_)
    refine lv_goto (tgt := 154) hx hb dX7_most_90 (by decide) ?_
    refine lv_iinc (v := 1) (lv' := [(6, .int 1), (7, .int (-1)), (5, .int 1), (4, .int 0), (8, .int 0), (3, .int (-1)), (0, .ref p0), (1, .int 1), (2, .int p2)]) hx hb dX7_most_154 hl (k := 1) rfl (by decide +kernel) (by decide) rfl (fun ls hl => ?_)
    refine lv_goto (tgt := 52) hx hb dX7_most_157 (by decide) ?_
    refine lv_iload hx hb dX7_most_52 (lv_at hl 0 rfl) ?_
    refine lv_iconst (v := 1) hx hb dX7_most_54 (by decide +kernel) ?_
    refine lv_aload_n hx hb dX7_most_55 rfl (lv_at hl 6 rfl) ?_
    refine k_get (D := (dC, dI)) (ci := 7) (v := .ref (p3 14)) (C := RX7) (T := TX7) (N := 92) hx hb hts hinX7 hown hK hP 4 rfl rfl 14 (by decide) w_1 rfl rfl dX7_most_56 ?_
    refine lv_aload_n hx hb dX7_most_59 rfl (lv_at hl 6 rfl) ?_
    refine k_get (D := (dC, dI)) (ci := 7) (v := .int 0) (C := RX7) (T := TX7) (N := 92) hx hb hts hinX7 hown hK hP 4 rfl rfl 13 (by decide) w_2 rfl rfl dX7_most_60 ?_
    refine k_iald (v := 0) hx hb hK hP 5 0 0 rfl rfl rfl (Nat.le_of_ble_eq_true rfl) (Nat.le_of_ble_eq_true rfl) rfl dX7_most_63 ?_
    refine lv_ishl hx hb dX7_most_64 ?_
    refine k_int (v := 1) (by decide +kernel) ?_
    refine lv_icmp_ge (tgt := 160) hx hb dX7_most_65 (by decide) (fun _ => ?_) (fun q9 => absurd q9 (by decide +kernel))
    refine lv_iinc (v := 2) (lv' := [(5, .int 2), (6, .int 1), (7, .int (-1)), (4, .int 0), (8, .int 0), (3, .int (-1)), (0, .ref p0), (1, .int 1), (2, .int p2)]) hx hb dX7_most_160 hl (k := 2) rfl (by decide +kernel) (by decide) rfl (fun ls hl => ?_)
    refine lv_goto (tgt := 43) hx hb dX7_most_163 (by decide) ?_
    refine lv_iload hx hb dX7_most_43 (lv_at hl 0 rfl) ?_
    refine lv_iload_n hx hb dX7_most_45 rfl (lv_at hl 7 rfl) ?_
    refine lv_icmp_gt (tgt := 166) hx hb dX7_most_46 (by decide) (fun _ => ?_) (fun q9 => absurd q9 (by decide +kernel))
    refine lv_iload_n hx hb dX7_most_166 rfl (lv_at hl 8 rfl) ?_
    refine lv_if_ne (tgt := 175) hx hb dX7_most_167 (by decide) (fun c_24 => ?_) (fun c_24 => ?_)
    · have c_24 : ¬ p2.toInt = 0 := k_eqF rfl (by decide +kernel) c_24
      refine lv_iload_n hx hb dX7_most_175 rfl (lv_at hl 8 rfl) ?_
      refine lv_iconst (v := 1) hx hb dX7_most_176 (by decide +kernel) ?_
      refine lv_icmp_ne (tgt := 187) hx hb dX7_most_177 (by decide) (fun c_25 => ?_) (fun c_25 => ?_)
      · have c_25 : ¬ p2.toInt = 1 := k_eqF rfl (by decide +kernel) c_25
        exfalso; omega
      · have c_25 : p2.toInt = 1 := k_eqT rfl (by decide +kernel) c_25
        refine lv_aload_n hx hb dX7_most_180 rfl (lv_at hl 6 rfl) ?_
        refine k_get (D := (dC, dI)) (ci := 7) (v := .int 0) (C := RX7) (T := TX7) (N := 92) hx hb hts hinX7 hown hK hP 4 rfl rfl 75 (by decide) w_0 rfl rfl dX7_most_181 ?_
        refine lv_goto (tgt := 203) hx hb dX7_most_184 (by decide) ?_
        exact k_ri B hP hD hS dX7_most_203 () [4, 0, 1, 2, 5, 3] rfl rfl rfl (Nat.le_of_ble_eq_true rfl) (Nat.le_of_ble_eq_true rfl) rfl
    · have c_24 : p2.toInt = 0 := k_eqT rfl (by decide +kernel) c_24
      exfalso; omega
  · obtain rfl : p1 = 2 := k_eqL (by decide +kernel) c_1
    refine lv_iload_n hx hb dX7_most_0 rfl (lv_at hl 1 rfl) ?_
    refine lv_iconst (v := 0) hx hb dX7_most_1 (by decide +kernel) ?_
    refine lv_bipush (v := 8) hx hb dX7_most_2 (by decide +kernel) ?_
    refine k_ci (wc := []) (wr := [(p0, .inr (7, oM p3 i7 j7)), ((p3 49), .inl (cI, 22, .inl (fun _ => 0))), ((p3 50), .inl (cI, 22, .inl (fun _ => 0))), ((p3 72), .inl (cI, 9216, .inl (fun _ => 0))), ((p3 14), .inl (cI, 2, .inl (fun _ => 0))), ((p3 18), .inl (cI, 2, .inl (fun _ => 0)))]) (fun hPc hDc hFc => va_runS (As := [.int 2, .int 0, .int 8]) (rest := []) ⟨hx, hb, hml, hown, hts⟩ (c_X7_is_v8 l dC dI cI cJ cZ cM H.size) (va_cwS 3 hts gX7_most_X7_is rfl rfl rfl (by decide +kernel) ⟨(Nat.le_of_ble_eq_true rfl), (Nat.le_of_ble_eq_true rfl)⟩) (k_pS hPc hDc hK hN hC hS hFc) rfl rfl hl.1 rfl (lv_room (Nat.le_of_ble_eq_true rfl)) dX7_most_4 ⟨(Nat.le_of_ble_eq_true rfl), (Nat.le_of_ble_eq_true rfl)⟩) hP hD hS hA [] [0, 1, 2, 3, 4, 5] rfl rfl rfl rfl (by decide) (fun _ => rfl) 0 0 rfl rfl (fun r_26 u_27 H locs hw hP hD hS => ?_)
    obtain rfl : r_26 = 1 := hw
    have hP : va_P (dC, dI) vwCl [(p0, .inr (7, oM p3 i7 j7)), ((p3 49), .inl (cI, 22, .inl (fun _ => 0))), ((p3 50), .inl (cI, 22, .inl (fun _ => 0))), ((p3 72), .inl (cI, 9216, .inl (fun _ => 0))), ((p3 14), .inl (cI, 2, .inl (fun _ => 0))), ((p3 18), .inl (cI, 2, .inl (fun _ => 0)))] H := hP
    have hD : va_D A [(p0, .inr (7, oM p3 i7 j7)), ((p3 49), .inl (cI, 22, .inl (fun _ => 0))), ((p3 50), .inl (cI, 22, .inl (fun _ => 0))), ((p3 72), .inl (cI, 9216, .inl (fun _ => 0))), ((p3 14), .inl (cI, 2, .inl (fun _ => 0))), ((p3 18), .inl (cI, 2, .inl (fun _ => 0)))] := hD
    refine lv_if_eq (tgt := 19) hx hb dX7_most_7 (by decide) (fun q9 => absurd q9 (by decide +kernel)) (fun _ => ?_)
    refine lv_iload_n hx hb dX7_most_10 rfl (lv_at hl 2 rfl) ?_
    refine lv_iconst (v := 0) hx hb dX7_most_11 (by decide +kernel) ?_
    refine lv_iconst (v := 3) hx hb dX7_most_12 (by decide +kernel) ?_
    refine k_ci (wc := []) (wr := [(p0, .inr (7, oM p3 i7 j7)), ((p3 49), .inl (cI, 22, .inl (fun _ => 0))), ((p3 50), .inl (cI, 22, .inl (fun _ => 0))), ((p3 72), .inl (cI, 9216, .inl (fun _ => 0))), ((p3 14), .inl (cI, 2, .inl (fun _ => 0))), ((p3 18), .inl (cI, 2, .inl (fun _ => 0)))]) (fun hPc hDc hFc => va_runS (As := [.int p2, .int 0, .int 3]) (rest := []) ⟨hx, hb, hml, hown, hts⟩ (c_X7_is_v21 l dC dI cI cJ cZ cM p2 (by omega) (by omega) H.size) (va_cwS 3 hts gX7_most_X7_is rfl rfl rfl (by decide +kernel) ⟨(Nat.le_of_ble_eq_true rfl), (Nat.le_of_ble_eq_true rfl)⟩) (k_pS hPc hDc hK hN hC hS hFc) rfl rfl hl.1 rfl (lv_room (Nat.le_of_ble_eq_true rfl)) dX7_most_13 ⟨(Nat.le_of_ble_eq_true rfl), (Nat.le_of_ble_eq_true rfl)⟩) hP hD hS hA [] [0, 1, 2, 3, 4, 5] rfl rfl rfl rfl (by decide) (fun _ => rfl) 0 0 rfl rfl (fun r_28 u_29 H locs hw hP hD hS => ?_)
    obtain rfl : r_28 = 1 := hw
    have hP : va_P (dC, dI) vwCl [(p0, .inr (7, oM p3 i7 j7)), ((p3 49), .inl (cI, 22, .inl (fun _ => 0))), ((p3 50), .inl (cI, 22, .inl (fun _ => 0))), ((p3 72), .inl (cI, 9216, .inl (fun _ => 0))), ((p3 14), .inl (cI, 2, .inl (fun _ => 0))), ((p3 18), .inl (cI, 2, .inl (fun _ => 0)))] H := hP
    have hD : va_D A [(p0, .inr (7, oM p3 i7 j7)), ((p3 49), .inl (cI, 22, .inl (fun _ => 0))), ((p3 50), .inl (cI, 22, .inl (fun _ => 0))), ((p3 72), .inl (cI, 9216, .inl (fun _ => 0))), ((p3 14), .inl (cI, 2, .inl (fun _ => 0))), ((p3 18), .inl (cI, 2, .inl (fun _ => 0)))] := hD
    refine lv_if_ne (tgt := 21) hx hb dX7_most_16 (by decide) (fun _ => ?_) (fun q9 => absurd q9 (by decide +kernel))
    refine lv_aload_n hx hb dX7_most_21 rfl (lv_at hl 0 rfl) ?_
    refine k_cv (wc := [(p0, .inr (7, oM p3 i7 j7)), ((p3 49), .inl (cI, 22, .inl (fun _ => 0))), ((p3 50), .inl (cI, 22, .inl (fun _ => 0))), ((p3 72), .inl (cI, 9216, .inl (fun _ => 0))), ((p3 14), .inl (cI, 2, .inl (fun _ => 0))), ((p3 18), .inl (cI, 2, .inl (fun _ => 0)))]) (wr := []) (fun hPc hDc hFc => va_runV (As := []) (rest := []) ⟨hx, hb, hml, hown, hts⟩ (c_X7_climbs_v0 l dC dI cI cJ cZ cM p0 p3 H.size) (cwV 0 hts gX7_most_X7_climbs rfl rfl rfl (by decide +kernel) ⟨(Nat.le_of_ble_eq_true rfl), (Nat.le_of_ble_eq_true rfl)⟩) (k_pV hPc hDc hK hN hC hS hFc hP (q0 := 0) (ci := 7) rfl rfl) rfl rfl hl.1 rfl (lv_room (Nat.le_of_ble_eq_true rfl)) dX7_most_22 ⟨(Nat.le_of_ble_eq_true rfl), (Nat.le_of_ble_eq_true rfl)⟩) hP hD hS hA [0, 1, 2, 3, 4, 5] [] rfl rfl rfl rfl (by decide) (fun _ => rfl) 0 0 rfl rfl (fun u_31 H locs hw hP hD hS => ?_)
    have hP : va_P (dC, dI) vwCl [(p0, .inr (7, oM p3 i7 j7)), ((p3 49), .inl (cI, 22, .inl (fun _ => 0))), ((p3 50), .inl (cI, 22, .inl (fun _ => 0))), ((p3 72), .inl (cI, 9216, .inl (upd (fun _ => (-1)) 0 0))), ((p3 14), .inl (cI, 2, .inl (fun _ => 0))), ((p3 18), .inl (cI, 2, .inl (fun _ => 0)))] H := hP
    have hD : va_D A [(p0, .inr (7, oM p3 i7 j7)), ((p3 49), .inl (cI, 22, .inl (fun _ => 0))), ((p3 50), .inl (cI, 22, .inl (fun _ => 0))), ((p3 72), .inl (cI, 9216, .inl (upd (fun _ => (-1)) 0 0))), ((p3 14), .inl (cI, 2, .inl (fun _ => 0))), ((p3 18), .inl (cI, 2, .inl (fun _ => 0)))] := hD
    refine lv_aload_n hx hb dX7_most_25 rfl (lv_at hl 0 rfl) ?_
    refine k_ci (wc := [(p0, .inr (7, oM p3 i7 j7)), ((p3 14), .inl (cI, 2, .inl (fun _ => 0)))]) (wr := [((p3 49), .inl (cI, 22, .inl (fun _ => 0))), ((p3 50), .inl (cI, 22, .inl (fun _ => 0))), ((p3 72), .inl (cI, 9216, .inl (upd (fun _ => (-1)) 0 0))), ((p3 18), .inl (cI, 2, .inl (fun _ => 0)))]) (fun hPc hDc hFc => va_runV (As := []) (rest := []) ⟨hx, hb, hml, hown, hts⟩ (c_X7_briefOnes_v2 l dC dI cI cJ cZ cM p0 p3 H.size) (cwV 0 hts gX7_most_X7_briefOnes rfl rfl rfl (by decide +kernel) ⟨(Nat.le_of_ble_eq_true rfl), (Nat.le_of_ble_eq_true rfl)⟩) (k_pV hPc hDc hK hN hC hS hFc hP (q0 := 0) (ci := 7) rfl rfl) rfl rfl hl.1 rfl (lv_room (Nat.le_of_ble_eq_true rfl)) dX7_most_26 ⟨(Nat.le_of_ble_eq_true rfl), (Nat.le_of_ble_eq_true rfl)⟩) hP hD hS hA [0, 4] [1, 2, 3, 5] rfl rfl rfl rfl (by decide) (fun _ => rfl) 0 0 rfl rfl (fun r_32 u_33 H locs hw hP hD hS => ?_)
    obtain rfl : r_32 = 0 := hw
    have hP : va_P (dC, dI) vwCl [((p3 49), .inl (cI, 22, .inl (fun _ => 0))), ((p3 50), .inl (cI, 22, .inl (fun _ => 0))), ((p3 72), .inl (cI, 9216, .inl (upd (fun _ => (-1)) 0 0))), ((p3 18), .inl (cI, 2, .inl (fun _ => 0))), (p0, .inr (7, oM p3 i7 j7)), ((p3 14), .inl (cI, 2, .inl (fun _ => 0)))] H := hP
    have hD : va_D A [((p3 49), .inl (cI, 22, .inl (fun _ => 0))), ((p3 50), .inl (cI, 22, .inl (fun _ => 0))), ((p3 72), .inl (cI, 9216, .inl (upd (fun _ => (-1)) 0 0))), ((p3 18), .inl (cI, 2, .inl (fun _ => 0))), (p0, .inr (7, oM p3 i7 j7)), ((p3 14), .inl (cI, 2, .inl (fun _ => 0)))] := hD
    refine lv_iconst (v := (-1)) hx hb dX7_most_29 (by decide +kernel) ?_
    refine lv_ixor hx hb dX7_most_30 ?_
    refine k_int (v := (-1)) (by decide +kernel) ?_
    refine lv_istore_n (lv' := [(3, .int (-1)), (0, .ref p0), (1, .int 2), (2, .int p2)]) hx hb dX7_most_31 rfl hl (by decide) rfl (fun ls hl => ?_)
    refine lv_aload_n hx hb dX7_most_32 rfl (lv_at hl 1 rfl) ?_
    refine lv_iconst (v := (-1)) hx hb dX7_most_33 (by decide +kernel) ?_
    refine k_put (D := (dC, dI)) (ci := 7) (v := .int (-1)) (C := RX7) (T := TX7) (N := 92) (ws' := [((p3 49), .inl (cI, 22, .inl (fun _ => 0))), ((p3 50), .inl (cI, 22, .inl (fun _ => 0))), ((p3 72), .inl (cI, 9216, .inl (upd (fun _ => (-1)) 0 0))), ((p3 18), .inl (cI, 2, .inl (fun _ => 0))), (p0, .inr (7, oM p3 (upd i7 75 (-1)) j7)), ((p3 14), .inl (cI, 2, .inl (fun _ => 0)))]) hx hb hts hinX7 tyX7 tyX7_ok nmX7 hown hK hP hD hS 4 rfl rfl 75 (by decide) w_0 rfl rfl rfl rfl (Nat.le_of_ble_eq_true rfl) rfl dX7_most_34 (fun H locs hP hD hS => ?_)
    refine lv_iconst (v := (-1)) hx hb dX7_most_37 (by decide +kernel) ?_
    refine lv_istore (lv' := [(4, .int (-1)), (3, .int (-1)), (0, .ref p0), (1, .int 2), (2, .int p2)]) hx hb dX7_most_38 hl (by decide) rfl (fun ls hl => ?_)
    refine lv_iconst (v := 0) hx hb dX7_most_40 (by decide +kernel) ?_
    refine lv_istore (lv' := [(5, .int 0), (4, .int (-1)), (3, .int (-1)), (0, .ref p0), (1, .int 2), (2, .int p2)]) hx hb dX7_most_41 hl (by decide) rfl (fun ls hl => ?_)
    refine lv_iload hx hb dX7_most_43 (lv_at hl 0 rfl) ?_
    refine lv_iload_n hx hb dX7_most_45 rfl (lv_at hl 4 rfl) ?_
    refine lv_icmp_gt (tgt := 166) hx hb dX7_most_46 (by decide) (fun q9 => absurd q9 (by decide +kernel)) (fun _ => ?_)
    refine lv_iconst (v := 0) hx hb dX7_most_49 (by decide +kernel) ?_
    refine lv_istore (lv' := [(6, .int 0), (5, .int 0), (4, .int (-1)), (3, .int (-1)), (0, .ref p0), (1, .int 2), (2, .int p2)]) hx hb dX7_most_50 hl (by decide) rfl (fun ls hl => ?_)
    refine lv_iload hx hb dX7_most_52 (lv_at hl 0 rfl) ?_
    refine lv_iconst (v := 1) hx hb dX7_most_54 (by decide +kernel) ?_
    refine lv_aload_n hx hb dX7_most_55 rfl (lv_at hl 4 rfl) ?_
    refine k_get (D := (dC, dI)) (ci := 7) (v := .ref (p3 14)) (C := RX7) (T := TX7) (N := 92) hx hb hts hinX7 hown hK hP 4 rfl rfl 14 (by decide) w_1 rfl rfl dX7_most_56 ?_
    refine lv_aload_n hx hb dX7_most_59 rfl (lv_at hl 4 rfl) ?_
    refine k_get (D := (dC, dI)) (ci := 7) (v := .int 0) (C := RX7) (T := TX7) (N := 92) hx hb hts hinX7 hown hK hP 4 rfl rfl 13 (by decide) w_2 rfl rfl dX7_most_60 ?_
    refine k_iald (v := 0) hx hb hK hP 5 0 0 rfl rfl rfl (Nat.le_of_ble_eq_true rfl) (Nat.le_of_ble_eq_true rfl) rfl dX7_most_63 ?_
    refine lv_ishl hx hb dX7_most_64 ?_
    refine k_int (v := 1) (by decide +kernel) ?_
    refine lv_icmp_ge (tgt := 160) hx hb dX7_most_65 (by decide) (fun q9 => absurd q9 (by decide +kernel)) (fun _ => ?_)
    refine lv_aload_n hx hb dX7_most_68 rfl (lv_at hl 4 rfl) ?_
    refine k_get (D := (dC, dI)) (ci := 7) (v := .ref (p3 72)) (C := RX7) (T := TX7) (N := 92) hx hb hts hinX7 hown hK hP 4 rfl rfl 72 (by decide) w_3 rfl rfl dX7_most_69 ?_
    refine lv_sipush (v := 1024) hx hb dX7_most_72 (by decide +kernel) ?_
    refine lv_iload hx hb dX7_most_75 (lv_at hl 1 rfl) ?_
    refine lv_imul hx hb dX7_most_77 ?_
    refine k_int (v := 0) (by decide +kernel) ?_
    refine lv_iload hx hb dX7_most_78 (lv_at hl 0 rfl) ?_
    refine lv_iadd hx hb dX7_most_80 ?_
    refine k_int (v := 0) (by decide +kernel) ?_
    refine k_iald (v := 0) hx hb hK hP 2 0 0 rfl rfl rfl (Nat.le_of_ble_eq_true rfl) (Nat.le_of_ble_eq_true rfl) rfl dX7_most_81 ?_
    refine lv_istore (lv' := [(7, .int 0), (6, .int 0), (5, .int 0), (4, .int (-1)), (3, .int (-1)), (0, .ref p0), (1, .int 2), (2, .int p2)]) hx hb dX7_most_82 hl (by decide) rfl (fun ls hl => ?_)
    refine lv_iload hx hb dX7_most_84 (lv_at hl 0 rfl) ?_
    refine lv_iconst (v := (-1)) hx hb dX7_most_86 (by decide +kernel) ?_
    refine lv_icmp_ne (tgt := 93) hx hb dX7_most_87 (by decide) (fun _ => ?_) (fun q9 => absurd q9 (by decide +kernel))
    refine lv_aload_n hx hb dX7_most_93 rfl (lv_at hl 5 rfl) ?_
    refine lv_iload hx hb dX7_most_94 (lv_at hl 1 rfl) ?_
    refine lv_iload_n hx hb dX7_most_96 rfl (lv_at hl 4 rfl) ?_
    refine lv_iand hx hb dX7_most_97 ?_
    refine k_int (v := 0) (by decide +kernel) ?_
    refine k_ci (wc := [(p0, .inr (7, oM p3 (upd i7 75 (-1)) j7)), ((p3 14), .inl (cI, 2, .inl (fun _ => 0)))]) (wr := [((p3 49), .inl (cI, 22, .inl (fun _ => 0))), ((p3 50), .inl (cI, 22, .inl (fun _ => 0))), ((p3 72), .inl (cI, 9216, .inl (upd (fun _ => (-1)) 0 0))), ((p3 18), .inl (cI, 2, .inl (fun _ => 0)))]) (fun hPc hDc hFc => va_runV (As := [.int 0]) (rest := []) ⟨hx, hb, hml, hown, hts⟩ (c_X7_worthOf_v1 l dC dI cI cJ cZ cM p0 p3 H.size) (cwV 1 hts gX7_most_X7_worthOf rfl rfl rfl (by decide +kernel) ⟨(Nat.le_of_ble_eq_true rfl), (Nat.le_of_ble_eq_true rfl)⟩) (k_pV hPc hDc hK hN hC hS hFc hP (q0 := 4) (ci := 7) rfl rfl) rfl rfl hl.1 rfl (lv_room (Nat.le_of_ble_eq_true rfl)) dX7_most_98 ⟨(Nat.le_of_ble_eq_true rfl), (Nat.le_of_ble_eq_true rfl)⟩) hP hD hS hA [4, 5] [0, 1, 2, 3] rfl rfl rfl rfl (by decide) (fun _ => rfl) 0 0 rfl rfl (fun r_34 u_35 H locs hw hP hD hS => ?_)
    obtain rfl : r_34 = 0 := hw
    have hP : va_P (dC, dI) vwCl [((p3 49), .inl (cI, 22, .inl (fun _ => 0))), ((p3 50), .inl (cI, 22, .inl (fun _ => 0))), ((p3 72), .inl (cI, 9216, .inl (upd (fun _ => (-1)) 0 0))), ((p3 18), .inl (cI, 2, .inl (fun _ => 0))), (p0, .inr (7, oM p3 (upd i7 75 (-1)) j7)), ((p3 14), .inl (cI, 2, .inl (fun _ => 0)))] H := hP
    have hD : va_D A [((p3 49), .inl (cI, 22, .inl (fun _ => 0))), ((p3 50), .inl (cI, 22, .inl (fun _ => 0))), ((p3 72), .inl (cI, 9216, .inl (upd (fun _ => (-1)) 0 0))), ((p3 18), .inl (cI, 2, .inl (fun _ => 0))), (p0, .inr (7, oM p3 (upd i7 75 (-1)) j7)), ((p3 14), .inl (cI, 2, .inl (fun _ => 0)))] := hD
    refine lv_istore (lv' := [(8, .int 0), (7, .int 0), (6, .int 0), (5, .int 0), (4, .int (-1)), (3, .int (-1)), (0, .ref p0), (1, .int 2), (2, .int p2)]) hx hb dX7_most_101 hl (by decide) rfl (fun ls hl => ?_)
    refine lv_iload hx hb dX7_most_103 (lv_at hl 0 rfl) ?_
    refine lv_iload hx hb dX7_most_105 (lv_at hl 4 rfl) ?_
    refine lv_icmp_lt (tgt := 154) hx hb dX7_most_107 (by decide) (fun q9 => absurd q9 (by decide +kernel)) (fun _ => ?_)
    refine lv_iload hx hb dX7_most_110 (lv_at hl 0 rfl) ?_
    refine lv_iload hx hb dX7_most_112 (lv_at hl 4 rfl) ?_
    refine lv_icmp_ne (tgt := 138) hx hb dX7_most_114 (by decide) (fun _ => ?_) (fun q9 => absurd q9 (by decide +kernel))
    refine lv_iload hx hb dX7_most_138 (lv_at hl 0 rfl) ?_
    refine lv_istore (lv' := [(4, .int 0), (8, .int 0), (7, .int 0), (6, .int 0), (5, .int 0), (3, .int (-1)), (0, .ref p0), (1, .int 2), (2, .int p2)]) hx hb dX7_most_140 hl (by decide) rfl (fun ls hl => ?_)
    refine lv_aload_n hx hb dX7_most_142 rfl (lv_at hl 6 rfl) ?_
    refine lv_iload hx hb dX7_most_143 (lv_at hl 4 rfl) ?_
    refine k_put (D := (dC, dI)) (ci := 7) (v := .int 0) (C := RX7) (T := TX7) (N := 92) (ws' := [((p3 49), .inl (cI, 22, .inl (fun _ => 0))), ((p3 50), .inl (cI, 22, .inl (fun _ => 0))), ((p3 72), .inl (cI, 9216, .inl (upd (fun _ => (-1)) 0 0))), ((p3 18), .inl (cI, 2, .inl (fun _ => 0))), (p0, .inr (7, oM p3 (upd i7 75 0) j7)), ((p3 14), .inl (cI, 2, .inl (fun _ => 0)))]) hx hb hts hinX7 tyX7 tyX7_ok nmX7 hown hK hP hD hS 4 rfl rfl 75 (by decide) w_0 rfl rfl rfl rfl (Nat.le_of_ble_eq_true rfl) rfl dX7_most_145 (fun H locs hP hD hS => ?_)
    refine lv_aload_n hx hb dX7_most_148 rfl (lv_at hl 6 rfl) ?_
    refine lv_iload hx hb dX7_most_149 (lv_at hl 3 rfl) ?_
    refine k_put (D := (dC, dI)) (ci := 7) (v := .int 0) (C := RX7) (T := TX7) (N := 92) (ws' := [((p3 49), .inl (cI, 22, .inl (fun _ => 0))), ((p3 50), .inl (cI, 22, .inl (fun _ => 0))), ((p3 72), .inl (cI, 9216, .inl (upd (fun _ => (-1)) 0 0))), ((p3 18), .inl (cI, 2, .inl (fun _ => 0))), (p0, .inr (7, oM p3 (upd (upd i7 75 0) 76 0) j7)), ((p3 14), .inl (cI, 2, .inl (fun _ => 0)))]) hx hb hts hinX7 tyX7 tyX7_ok nmX7 hown hK hP hD hS 4 rfl rfl 76 (by decide) w_4 rfl rfl rfl rfl (Nat.le_of_ble_eq_true rfl) rfl dX7_most_151 (fun H locs hP hD hS => ?_)
    refine lv_iinc (v := 1) (lv' := [(6, .int 1), (4, .int 0), (8, .int 0), (7, .int 0), (5, .int 0), (3, .int (-1)), (0, .ref p0), (1, .int 2), (2, .int p2)]) hx hb dX7_most_154 hl (k := 3) rfl (by decide +kernel) (by decide) rfl (fun ls hl => ?_)
    refine lv_goto (tgt := 52) hx hb dX7_most_157 (by decide) ?_
    refine lv_iload hx hb dX7_most_52 (lv_at hl 0 rfl) ?_
    refine lv_iconst (v := 1) hx hb dX7_most_54 (by decide +kernel) ?_
    refine lv_aload_n hx hb dX7_most_55 rfl (lv_at hl 6 rfl) ?_
    refine k_get (D := (dC, dI)) (ci := 7) (v := .ref (p3 14)) (C := RX7) (T := TX7) (N := 92) hx hb hts hinX7 hown hK hP 4 rfl rfl 14 (by decide) w_1 rfl rfl dX7_most_56 ?_
    refine lv_aload_n hx hb dX7_most_59 rfl (lv_at hl 6 rfl) ?_
    refine k_get (D := (dC, dI)) (ci := 7) (v := .int 0) (C := RX7) (T := TX7) (N := 92) hx hb hts hinX7 hown hK hP 4 rfl rfl 13 (by decide) w_2 rfl rfl dX7_most_60 ?_
    refine k_iald (v := 0) hx hb hK hP 5 0 0 rfl rfl rfl (Nat.le_of_ble_eq_true rfl) (Nat.le_of_ble_eq_true rfl) rfl dX7_most_63 ?_
    refine lv_ishl hx hb dX7_most_64 ?_
    refine k_int (v := 1) (by decide +kernel) ?_
    refine lv_icmp_ge (tgt := 160) hx hb dX7_most_65 (by decide) (fun _ => ?_) (fun q9 => absurd q9 (by decide +kernel))
    refine lv_iinc (v := 1) (lv' := [(5, .int 1), (6, .int 1), (4, .int 0), (8, .int 0), (7, .int 0), (3, .int (-1)), (0, .ref p0), (1, .int 2), (2, .int p2)]) hx hb dX7_most_160 hl (k := 4) rfl (by decide +kernel) (by decide) rfl (fun ls hl => ?_)
    refine lv_goto (tgt := 43) hx hb dX7_most_163 (by decide) ?_
    refine lv_iload hx hb dX7_most_43 (lv_at hl 0 rfl) ?_
    refine lv_iload_n hx hb dX7_most_45 rfl (lv_at hl 7 rfl) ?_
    refine lv_icmp_gt (tgt := 166) hx hb dX7_most_46 (by decide) (fun q9 => absurd q9 (by decide +kernel)) (fun _ => ?_)
    refine lv_iconst (v := 0) hx hb dX7_most_49 (by decide +kernel) ?_
    refine lv_istore (lv' := [(6, .int 0), (5, .int 1), (4, .int 0), (8, .int 0), (7, .int 0), (3, .int (-1)), (0, .ref p0), (1, .int 2), (2, .int p2)]) hx hb dX7_most_50 hl (by decide) rfl (fun ls hl => ?_)
    refine lv_iload hx hb dX7_most_52 (lv_at hl 0 rfl) ?_
    refine lv_iconst (v := 1) hx hb dX7_most_54 (by decide +kernel) ?_
    refine lv_aload_n hx hb dX7_most_55 rfl (lv_at hl 6 rfl) ?_
    refine k_get (D := (dC, dI)) (ci := 7) (v := .ref (p3 14)) (C := RX7) (T := TX7) (N := 92) hx hb hts hinX7 hown hK hP 4 rfl rfl 14 (by decide) w_1 rfl rfl dX7_most_56 ?_
    refine lv_aload_n hx hb dX7_most_59 rfl (lv_at hl 6 rfl) ?_
    refine k_get (D := (dC, dI)) (ci := 7) (v := .int 0) (C := RX7) (T := TX7) (N := 92) hx hb hts hinX7 hown hK hP 4 rfl rfl 13 (by decide) w_2 rfl rfl dX7_most_60 ?_
    refine k_iald (v := 0) hx hb hK hP 5 0 0 rfl rfl rfl (Nat.le_of_ble_eq_true rfl) (Nat.le_of_ble_eq_true rfl) rfl dX7_most_63 ?_
    refine lv_ishl hx hb dX7_most_64 ?_
    refine k_int (v := 1) (by decide +kernel) ?_
    refine lv_icmp_ge (tgt := 160) hx hb dX7_most_65 (by decide) (fun q9 => absurd q9 (by decide +kernel)) (fun _ => ?_)
    refine lv_aload_n hx hb dX7_most_68 rfl (lv_at hl 6 rfl) ?_
    refine k_get (D := (dC, dI)) (ci := 7) (v := .ref (p3 72)) (C := RX7) (T := TX7) (N := 92) hx hb hts hinX7 hown hK hP 4 rfl rfl 72 (by decide) w_3 rfl rfl dX7_most_69 ?_
    refine lv_sipush (v := 1024) hx hb dX7_most_72 (by decide +kernel) ?_
    refine lv_iload hx hb dX7_most_75 (lv_at hl 1 rfl) ?_
    refine lv_imul hx hb dX7_most_77 ?_
    refine k_int (v := 1024) (by decide +kernel) ?_
    refine lv_iload hx hb dX7_most_78 (lv_at hl 0 rfl) ?_
    refine lv_iadd hx hb dX7_most_80 ?_
    refine k_int (v := 1024) (by decide +kernel) ?_
    refine k_iald (v := (-1)) hx hb hK hP 2 0 1024 rfl rfl rfl (Nat.le_of_ble_eq_true rfl) (Nat.le_of_ble_eq_true rfl) rfl dX7_most_81 ?_
    refine lv_istore (lv' := [(7, .int (-1)), (6, .int 0), (5, .int 1), (4, .int 0), (8, .int 0), (3, .int (-1)), (0, .ref p0), (1, .int 2), (2, .int p2)]) hx hb dX7_most_82 hl (by decide) rfl (fun ls hl => ?_)
    refine lv_iload hx hb dX7_most_84 (lv_at hl 0 rfl) ?_
    refine lv_iconst (v := (-1)) hx hb dX7_most_86 (by decide +kernel) ?_
    refine lv_icmp_ne (tgt := 93) hx hb dX7_most_87 (by decide) (fun q9 => absurd q9 (by decide +kernel)) (fun _ => ?_)
    refine lv_goto (tgt := 154) hx hb dX7_most_90 (by decide) ?_
    refine lv_iinc (v := 1) (lv' := [(6, .int 1), (7, .int (-1)), (5, .int 1), (4, .int 0), (8, .int 0), (3, .int (-1)), (0, .ref p0), (1, .int 2), (2, .int p2)]) hx hb dX7_most_154 hl (k := 1) rfl (by decide +kernel) (by decide) rfl (fun ls hl => ?_)
    refine lv_goto (tgt := 52) hx hb dX7_most_157 (by decide) ?_
    refine lv_iload hx hb dX7_most_52 (lv_at hl 0 rfl) ?_
    refine lv_iconst (v := 1) hx hb dX7_most_54 (by decide +kernel) ?_
    refine lv_aload_n hx hb dX7_most_55 rfl (lv_at hl 6 rfl) ?_
    refine k_get (D := (dC, dI)) (ci := 7) (v := .ref (p3 14)) (C := RX7) (T := TX7) (N := 92) hx hb hts hinX7 hown hK hP 4 rfl rfl 14 (by decide) w_1 rfl rfl dX7_most_56 ?_
    refine lv_aload_n hx hb dX7_most_59 rfl (lv_at hl 6 rfl) ?_
    refine k_get (D := (dC, dI)) (ci := 7) (v := .int 0) (C := RX7) (T := TX7) (N := 92) hx hb hts hinX7 hown hK hP 4 rfl rfl 13 (by decide) w_2 rfl rfl dX7_most_60 ?_
    refine k_iald (v := 0) hx hb hK hP 5 0 0 rfl rfl rfl (Nat.le_of_ble_eq_true rfl) (Nat.le_of_ble_eq_true rfl) rfl dX7_most_63 ?_
    refine lv_ishl hx hb dX7_most_64 ?_
    refine k_int (v := 1) (by decide +kernel) ?_
    refine lv_icmp_ge (tgt := 160) hx hb dX7_most_65 (by decide) (fun _ => ?_) (fun q9 => absurd q9 (by decide +kernel))
    refine lv_iinc (v := 2) (lv' := [(5, .int 2), (6, .int 1), (7, .int (-1)), (4, .int 0), (8, .int 0), (3, .int (-1)), (0, .ref p0), (1, .int 2), (2, .int p2)]) hx hb dX7_most_160 hl (k := 2) rfl (by decide +kernel) (by decide) rfl (fun ls hl => ?_)
    refine lv_goto (tgt := 43) hx hb dX7_most_163 (by decide) ?_
    refine lv_iload hx hb dX7_most_43 (lv_at hl 0 rfl) ?_
    refine lv_iload_n hx hb dX7_most_45 rfl (lv_at hl 7 rfl) ?_
    refine lv_icmp_gt (tgt := 166) hx hb dX7_most_46 (by decide) (fun q9 => absurd q9 (by decide +kernel)) (fun _ => ?_)
    refine lv_iconst (v := 0) hx hb dX7_most_49 (by decide +kernel) ?_
    refine lv_istore (lv' := [(6, .int 0), (5, .int 2), (7, .int (-1)), (4, .int 0), (8, .int 0), (3, .int (-1)), (0, .ref p0), (1, .int 2), (2, .int p2)]) hx hb dX7_most_50 hl (by decide) rfl (fun ls hl => ?_)
    refine lv_iload hx hb dX7_most_52 (lv_at hl 0 rfl) ?_
    refine lv_iconst (v := 1) hx hb dX7_most_54 (by decide +kernel) ?_
    refine lv_aload_n hx hb dX7_most_55 rfl (lv_at hl 6 rfl) ?_
    refine k_get (D := (dC, dI)) (ci := 7) (v := .ref (p3 14)) (C := RX7) (T := TX7) (N := 92) hx hb hts hinX7 hown hK hP 4 rfl rfl 14 (by decide) w_1 rfl rfl dX7_most_56 ?_
    refine lv_aload_n hx hb dX7_most_59 rfl (lv_at hl 6 rfl) ?_
    refine k_get (D := (dC, dI)) (ci := 7) (v := .int 0) (C := RX7) (T := TX7) (N := 92) hx hb hts hinX7 hown hK hP 4 rfl rfl 13 (by decide) w_2 rfl rfl dX7_most_60 ?_
    refine k_iald (v := 0) hx hb hK hP 5 0 0 rfl rfl rfl (Nat.le_of_ble_eq_true rfl) (Nat.le_of_ble_eq_true rfl) rfl dX7_most_63 ?_
    refine lv_ishl hx hb dX7_most_64 ?_
    refine k_int (v := 1) (by decide +kernel) ?_
    refine lv_icmp_ge (tgt := 160) hx hb dX7_most_65 (by decide) (fun q9 => absurd q9 (by decide +kernel)) (fun _ => ?_)
    refine lv_aload_n hx hb dX7_most_68 rfl (lv_at hl 6 rfl) ?_
    refine k_get (D := (dC, dI)) (ci := 7) (v := .ref (p3 72)) (C := RX7) (T := TX7) (N := 92) hx hb hts hinX7 hown hK hP 4 rfl rfl 72 (by decide) w_3 rfl rfl dX7_most_69 ?_
    refine lv_sipush (v := 1024) hx hb dX7_most_72 (by decide +kernel) ?_
    refine lv_iload hx hb dX7_most_75 (lv_at hl 1 rfl) ?_
    refine lv_imul hx hb dX7_most_77 ?_
    refine k_int (v := 2048) (by decide +kernel) ?_
    refine lv_iload hx hb dX7_most_78 (lv_at hl 0 rfl) ?_
    refine lv_iadd hx hb dX7_most_80 ?_
    refine k_int (v := 2048) (by decide +kernel) ?_
    refine k_iald (v := (-1)) hx hb hK hP 2 0 2048 rfl rfl rfl (Nat.le_of_ble_eq_true rfl) (Nat.le_of_ble_eq_true rfl) rfl dX7_most_81 ?_
    refine lv_istore (lv' := [(7, .int (-1)), (6, .int 0), (5, .int 2), (4, .int 0), (8, .int 0), (3, .int (-1)), (0, .ref p0), (1, .int 2), (2, .int p2)]) hx hb dX7_most_82 hl (by decide) rfl (fun ls hl => ?_)
    refine lv_iload hx hb dX7_most_84 (lv_at hl 0 rfl) ?_
    refine lv_iconst (v := (-1)) hx hb dX7_most_86 (by decide +kernel) ?_
    refine lv_icmp_ne (tgt := 93) hx hb dX7_most_87 (by decide) (fun q9 => absurd q9 (by decide +kernel)) (fun _ => ?_)
    refine lv_goto (tgt := 154) hx hb dX7_most_90 (by decide) ?_
    refine lv_iinc (v := 1) (lv' := [(6, .int 1), (7, .int (-1)), (5, .int 2), (4, .int 0), (8, .int 0), (3, .int (-1)), (0, .ref p0), (1, .int 2), (2, .int p2)]) hx hb dX7_most_154 hl (k := 1) rfl (by decide +kernel) (by decide) rfl (fun ls hl => ?_)
    refine lv_goto (tgt := 52) hx hb dX7_most_157 (by decide) ?_
    refine lv_iload hx hb dX7_most_52 (lv_at hl 0 rfl) ?_
    refine lv_iconst (v := 1) hx hb dX7_most_54 (by decide +kernel) ?_
    refine lv_aload_n hx hb dX7_most_55 rfl (lv_at hl 6 rfl) ?_
    refine k_get (D := (dC, dI)) (ci := 7) (v := .ref (p3 14)) (C := RX7) (T := TX7) (N := 92) hx hb hts hinX7 hown hK hP 4 rfl rfl 14 (by decide) w_1 rfl rfl dX7_most_56 ?_
    refine lv_aload_n hx hb dX7_most_59 rfl (lv_at hl 6 rfl) ?_
    refine k_get (D := (dC, dI)) (ci := 7) (v := .int 0) (C := RX7) (T := TX7) (N := 92) hx hb hts hinX7 hown hK hP 4 rfl rfl 13 (by decide) w_2 rfl rfl dX7_most_60 ?_
    refine k_iald (v := 0) hx hb hK hP 5 0 0 rfl rfl rfl (Nat.le_of_ble_eq_true rfl) (Nat.le_of_ble_eq_true rfl) rfl dX7_most_63 ?_
    refine lv_ishl hx hb dX7_most_64 ?_
    refine k_int (v := 1) (by decide +kernel) ?_
    refine lv_icmp_ge (tgt := 160) hx hb dX7_most_65 (by decide) (fun _ => ?_) (fun q9 => absurd q9 (by decide +kernel))
    refine lv_iinc (v := 3) (lv' := [(5, .int 3), (6, .int 1), (7, .int (-1)), (4, .int 0), (8, .int 0), (3, .int (-1)), (0, .ref p0), (1, .int 2), (2, .int p2)]) hx hb dX7_most_160 hl (k := 2) rfl (by decide +kernel) (by decide) rfl (fun ls hl => ?_)
    refine lv_goto (tgt := 43) hx hb dX7_most_163 (by decide) ?_
    refine lv_iload hx hb dX7_most_43 (lv_at hl 0 rfl) ?_
    refine lv_iload_n hx hb dX7_most_45 rfl (lv_at hl 7 rfl) ?_
    refine lv_icmp_gt (tgt := 166) hx hb dX7_most_46 (by decide) (fun _ => ?_) (fun q9 => absurd q9 (by decide +kernel))
    refine lv_iload_n hx hb dX7_most_166 rfl (lv_at hl 8 rfl) ?_
    refine lv_if_ne (tgt := 175) hx hb dX7_most_167 (by decide) (fun c_36 => ?_) (fun c_36 => ?_)
    · have c_36 : ¬ p2.toInt = 0 := k_eqF rfl (by decide +kernel) c_36
      refine lv_iload_n hx hb dX7_most_175 rfl (lv_at hl 8 rfl) ?_
      refine lv_iconst (v := 1) hx hb dX7_most_176 (by decide +kernel) ?_
      refine lv_icmp_ne (tgt := 187) hx hb dX7_most_177 (by decide) (fun c_37 => ?_) (fun c_37 => ?_)
      · have c_37 : ¬ p2.toInt = 1 := k_eqF rfl (by decide +kernel) c_37
        exfalso; omega
      · have c_37 : p2.toInt = 1 := k_eqT rfl (by decide +kernel) c_37
        refine lv_aload_n hx hb dX7_most_180 rfl (lv_at hl 6 rfl) ?_
        refine k_get (D := (dC, dI)) (ci := 7) (v := .int 0) (C := RX7) (T := TX7) (N := 92) hx hb hts hinX7 hown hK hP 4 rfl rfl 75 (by decide) w_0 rfl rfl dX7_most_181 ?_
        refine lv_goto (tgt := 203) hx hb dX7_most_184 (by decide) ?_
        exact k_ri B hP hD hS dX7_most_203 () [4, 0, 1, 2, 5, 3] rfl rfl rfl (Nat.le_of_ble_eq_true rfl) (Nat.le_of_ble_eq_true rfl) rfl
    · have c_36 : p2.toInt = 0 := k_eqT rfl (by decide +kernel) c_36
      exfalso; omega
  · obtain rfl : p1 = 3 := k_eqL (by decide +kernel) c_1
    refine lv_iload_n hx hb dX7_most_0 rfl (lv_at hl 1 rfl) ?_
    refine lv_iconst (v := 0) hx hb dX7_most_1 (by decide +kernel) ?_
    refine lv_bipush (v := 8) hx hb dX7_most_2 (by decide +kernel) ?_
    refine k_ci (wc := []) (wr := [(p0, .inr (7, oM p3 i7 j7)), ((p3 49), .inl (cI, 22, .inl (fun _ => 0))), ((p3 50), .inl (cI, 22, .inl (fun _ => 0))), ((p3 72), .inl (cI, 9216, .inl (fun _ => 0))), ((p3 14), .inl (cI, 2, .inl (fun _ => 0))), ((p3 18), .inl (cI, 2, .inl (fun _ => 0)))]) (fun hPc hDc hFc => va_runS (As := [.int 3, .int 0, .int 8]) (rest := []) ⟨hx, hb, hml, hown, hts⟩ (c_X7_is_v9 l dC dI cI cJ cZ cM H.size) (va_cwS 3 hts gX7_most_X7_is rfl rfl rfl (by decide +kernel) ⟨(Nat.le_of_ble_eq_true rfl), (Nat.le_of_ble_eq_true rfl)⟩) (k_pS hPc hDc hK hN hC hS hFc) rfl rfl hl.1 rfl (lv_room (Nat.le_of_ble_eq_true rfl)) dX7_most_4 ⟨(Nat.le_of_ble_eq_true rfl), (Nat.le_of_ble_eq_true rfl)⟩) hP hD hS hA [] [0, 1, 2, 3, 4, 5] rfl rfl rfl rfl (by decide) (fun _ => rfl) 0 0 rfl rfl (fun r_38 u_39 H locs hw hP hD hS => ?_)
    obtain rfl : r_38 = 1 := hw
    have hP : va_P (dC, dI) vwCl [(p0, .inr (7, oM p3 i7 j7)), ((p3 49), .inl (cI, 22, .inl (fun _ => 0))), ((p3 50), .inl (cI, 22, .inl (fun _ => 0))), ((p3 72), .inl (cI, 9216, .inl (fun _ => 0))), ((p3 14), .inl (cI, 2, .inl (fun _ => 0))), ((p3 18), .inl (cI, 2, .inl (fun _ => 0)))] H := hP
    have hD : va_D A [(p0, .inr (7, oM p3 i7 j7)), ((p3 49), .inl (cI, 22, .inl (fun _ => 0))), ((p3 50), .inl (cI, 22, .inl (fun _ => 0))), ((p3 72), .inl (cI, 9216, .inl (fun _ => 0))), ((p3 14), .inl (cI, 2, .inl (fun _ => 0))), ((p3 18), .inl (cI, 2, .inl (fun _ => 0)))] := hD
    refine lv_if_eq (tgt := 19) hx hb dX7_most_7 (by decide) (fun q9 => absurd q9 (by decide +kernel)) (fun _ => ?_)
    refine lv_iload_n hx hb dX7_most_10 rfl (lv_at hl 2 rfl) ?_
    refine lv_iconst (v := 0) hx hb dX7_most_11 (by decide +kernel) ?_
    refine lv_iconst (v := 3) hx hb dX7_most_12 (by decide +kernel) ?_
    refine k_ci (wc := []) (wr := [(p0, .inr (7, oM p3 i7 j7)), ((p3 49), .inl (cI, 22, .inl (fun _ => 0))), ((p3 50), .inl (cI, 22, .inl (fun _ => 0))), ((p3 72), .inl (cI, 9216, .inl (fun _ => 0))), ((p3 14), .inl (cI, 2, .inl (fun _ => 0))), ((p3 18), .inl (cI, 2, .inl (fun _ => 0)))]) (fun hPc hDc hFc => va_runS (As := [.int p2, .int 0, .int 3]) (rest := []) ⟨hx, hb, hml, hown, hts⟩ (c_X7_is_v21 l dC dI cI cJ cZ cM p2 (by omega) (by omega) H.size) (va_cwS 3 hts gX7_most_X7_is rfl rfl rfl (by decide +kernel) ⟨(Nat.le_of_ble_eq_true rfl), (Nat.le_of_ble_eq_true rfl)⟩) (k_pS hPc hDc hK hN hC hS hFc) rfl rfl hl.1 rfl (lv_room (Nat.le_of_ble_eq_true rfl)) dX7_most_13 ⟨(Nat.le_of_ble_eq_true rfl), (Nat.le_of_ble_eq_true rfl)⟩) hP hD hS hA [] [0, 1, 2, 3, 4, 5] rfl rfl rfl rfl (by decide) (fun _ => rfl) 0 0 rfl rfl (fun r_40 u_41 H locs hw hP hD hS => ?_)
    obtain rfl : r_40 = 1 := hw
    have hP : va_P (dC, dI) vwCl [(p0, .inr (7, oM p3 i7 j7)), ((p3 49), .inl (cI, 22, .inl (fun _ => 0))), ((p3 50), .inl (cI, 22, .inl (fun _ => 0))), ((p3 72), .inl (cI, 9216, .inl (fun _ => 0))), ((p3 14), .inl (cI, 2, .inl (fun _ => 0))), ((p3 18), .inl (cI, 2, .inl (fun _ => 0)))] H := hP
    have hD : va_D A [(p0, .inr (7, oM p3 i7 j7)), ((p3 49), .inl (cI, 22, .inl (fun _ => 0))), ((p3 50), .inl (cI, 22, .inl (fun _ => 0))), ((p3 72), .inl (cI, 9216, .inl (fun _ => 0))), ((p3 14), .inl (cI, 2, .inl (fun _ => 0))), ((p3 18), .inl (cI, 2, .inl (fun _ => 0)))] := hD
    refine lv_if_ne (tgt := 21) hx hb dX7_most_16 (by decide) (fun _ => ?_) (fun q9 => absurd q9 (by decide +kernel))
    refine lv_aload_n hx hb dX7_most_21 rfl (lv_at hl 0 rfl) ?_
    refine k_cv (wc := [(p0, .inr (7, oM p3 i7 j7)), ((p3 49), .inl (cI, 22, .inl (fun _ => 0))), ((p3 50), .inl (cI, 22, .inl (fun _ => 0))), ((p3 72), .inl (cI, 9216, .inl (fun _ => 0))), ((p3 14), .inl (cI, 2, .inl (fun _ => 0))), ((p3 18), .inl (cI, 2, .inl (fun _ => 0)))]) (wr := []) (fun hPc hDc hFc => va_runV (As := []) (rest := []) ⟨hx, hb, hml, hown, hts⟩ (c_X7_climbs_v0 l dC dI cI cJ cZ cM p0 p3 H.size) (cwV 0 hts gX7_most_X7_climbs rfl rfl rfl (by decide +kernel) ⟨(Nat.le_of_ble_eq_true rfl), (Nat.le_of_ble_eq_true rfl)⟩) (k_pV hPc hDc hK hN hC hS hFc hP (q0 := 0) (ci := 7) rfl rfl) rfl rfl hl.1 rfl (lv_room (Nat.le_of_ble_eq_true rfl)) dX7_most_22 ⟨(Nat.le_of_ble_eq_true rfl), (Nat.le_of_ble_eq_true rfl)⟩) hP hD hS hA [0, 1, 2, 3, 4, 5] [] rfl rfl rfl rfl (by decide) (fun _ => rfl) 0 0 rfl rfl (fun u_43 H locs hw hP hD hS => ?_)
    have hP : va_P (dC, dI) vwCl [(p0, .inr (7, oM p3 i7 j7)), ((p3 49), .inl (cI, 22, .inl (fun _ => 0))), ((p3 50), .inl (cI, 22, .inl (fun _ => 0))), ((p3 72), .inl (cI, 9216, .inl (upd (fun _ => (-1)) 0 0))), ((p3 14), .inl (cI, 2, .inl (fun _ => 0))), ((p3 18), .inl (cI, 2, .inl (fun _ => 0)))] H := hP
    have hD : va_D A [(p0, .inr (7, oM p3 i7 j7)), ((p3 49), .inl (cI, 22, .inl (fun _ => 0))), ((p3 50), .inl (cI, 22, .inl (fun _ => 0))), ((p3 72), .inl (cI, 9216, .inl (upd (fun _ => (-1)) 0 0))), ((p3 14), .inl (cI, 2, .inl (fun _ => 0))), ((p3 18), .inl (cI, 2, .inl (fun _ => 0)))] := hD
    refine lv_aload_n hx hb dX7_most_25 rfl (lv_at hl 0 rfl) ?_
    refine k_ci (wc := [(p0, .inr (7, oM p3 i7 j7)), ((p3 14), .inl (cI, 2, .inl (fun _ => 0)))]) (wr := [((p3 49), .inl (cI, 22, .inl (fun _ => 0))), ((p3 50), .inl (cI, 22, .inl (fun _ => 0))), ((p3 72), .inl (cI, 9216, .inl (upd (fun _ => (-1)) 0 0))), ((p3 18), .inl (cI, 2, .inl (fun _ => 0)))]) (fun hPc hDc hFc => va_runV (As := []) (rest := []) ⟨hx, hb, hml, hown, hts⟩ (c_X7_briefOnes_v2 l dC dI cI cJ cZ cM p0 p3 H.size) (cwV 0 hts gX7_most_X7_briefOnes rfl rfl rfl (by decide +kernel) ⟨(Nat.le_of_ble_eq_true rfl), (Nat.le_of_ble_eq_true rfl)⟩) (k_pV hPc hDc hK hN hC hS hFc hP (q0 := 0) (ci := 7) rfl rfl) rfl rfl hl.1 rfl (lv_room (Nat.le_of_ble_eq_true rfl)) dX7_most_26 ⟨(Nat.le_of_ble_eq_true rfl), (Nat.le_of_ble_eq_true rfl)⟩) hP hD hS hA [0, 4] [1, 2, 3, 5] rfl rfl rfl rfl (by decide) (fun _ => rfl) 0 0 rfl rfl (fun r_44 u_45 H locs hw hP hD hS => ?_)
    obtain rfl : r_44 = 0 := hw
    have hP : va_P (dC, dI) vwCl [((p3 49), .inl (cI, 22, .inl (fun _ => 0))), ((p3 50), .inl (cI, 22, .inl (fun _ => 0))), ((p3 72), .inl (cI, 9216, .inl (upd (fun _ => (-1)) 0 0))), ((p3 18), .inl (cI, 2, .inl (fun _ => 0))), (p0, .inr (7, oM p3 i7 j7)), ((p3 14), .inl (cI, 2, .inl (fun _ => 0)))] H := hP
    have hD : va_D A [((p3 49), .inl (cI, 22, .inl (fun _ => 0))), ((p3 50), .inl (cI, 22, .inl (fun _ => 0))), ((p3 72), .inl (cI, 9216, .inl (upd (fun _ => (-1)) 0 0))), ((p3 18), .inl (cI, 2, .inl (fun _ => 0))), (p0, .inr (7, oM p3 i7 j7)), ((p3 14), .inl (cI, 2, .inl (fun _ => 0)))] := hD
    refine lv_iconst (v := (-1)) hx hb dX7_most_29 (by decide +kernel) ?_
    refine lv_ixor hx hb dX7_most_30 ?_
    refine k_int (v := (-1)) (by decide +kernel) ?_
    refine lv_istore_n (lv' := [(3, .int (-1)), (0, .ref p0), (1, .int 3), (2, .int p2)]) hx hb dX7_most_31 rfl hl (by decide) rfl (fun ls hl => ?_)
    refine lv_aload_n hx hb dX7_most_32 rfl (lv_at hl 1 rfl) ?_
    refine lv_iconst (v := (-1)) hx hb dX7_most_33 (by decide +kernel) ?_
    refine k_put (D := (dC, dI)) (ci := 7) (v := .int (-1)) (C := RX7) (T := TX7) (N := 92) (ws' := [((p3 49), .inl (cI, 22, .inl (fun _ => 0))), ((p3 50), .inl (cI, 22, .inl (fun _ => 0))), ((p3 72), .inl (cI, 9216, .inl (upd (fun _ => (-1)) 0 0))), ((p3 18), .inl (cI, 2, .inl (fun _ => 0))), (p0, .inr (7, oM p3 (upd i7 75 (-1)) j7)), ((p3 14), .inl (cI, 2, .inl (fun _ => 0)))]) hx hb hts hinX7 tyX7 tyX7_ok nmX7 hown hK hP hD hS 4 rfl rfl 75 (by decide) w_0 rfl rfl rfl rfl (Nat.le_of_ble_eq_true rfl) rfl dX7_most_34 (fun H locs hP hD hS => ?_)
    refine lv_iconst (v := (-1)) hx hb dX7_most_37 (by decide +kernel) ?_
    refine lv_istore (lv' := [(4, .int (-1)), (3, .int (-1)), (0, .ref p0), (1, .int 3), (2, .int p2)]) hx hb dX7_most_38 hl (by decide) rfl (fun ls hl => ?_)
    refine lv_iconst (v := 0) hx hb dX7_most_40 (by decide +kernel) ?_
    refine lv_istore (lv' := [(5, .int 0), (4, .int (-1)), (3, .int (-1)), (0, .ref p0), (1, .int 3), (2, .int p2)]) hx hb dX7_most_41 hl (by decide) rfl (fun ls hl => ?_)
    refine lv_iload hx hb dX7_most_43 (lv_at hl 0 rfl) ?_
    refine lv_iload_n hx hb dX7_most_45 rfl (lv_at hl 4 rfl) ?_
    refine lv_icmp_gt (tgt := 166) hx hb dX7_most_46 (by decide) (fun q9 => absurd q9 (by decide +kernel)) (fun _ => ?_)
    refine lv_iconst (v := 0) hx hb dX7_most_49 (by decide +kernel) ?_
    refine lv_istore (lv' := [(6, .int 0), (5, .int 0), (4, .int (-1)), (3, .int (-1)), (0, .ref p0), (1, .int 3), (2, .int p2)]) hx hb dX7_most_50 hl (by decide) rfl (fun ls hl => ?_)
    refine lv_iload hx hb dX7_most_52 (lv_at hl 0 rfl) ?_
    refine lv_iconst (v := 1) hx hb dX7_most_54 (by decide +kernel) ?_
    refine lv_aload_n hx hb dX7_most_55 rfl (lv_at hl 4 rfl) ?_
    refine k_get (D := (dC, dI)) (ci := 7) (v := .ref (p3 14)) (C := RX7) (T := TX7) (N := 92) hx hb hts hinX7 hown hK hP 4 rfl rfl 14 (by decide) w_1 rfl rfl dX7_most_56 ?_
    refine lv_aload_n hx hb dX7_most_59 rfl (lv_at hl 4 rfl) ?_
    refine k_get (D := (dC, dI)) (ci := 7) (v := .int 0) (C := RX7) (T := TX7) (N := 92) hx hb hts hinX7 hown hK hP 4 rfl rfl 13 (by decide) w_2 rfl rfl dX7_most_60 ?_
    refine k_iald (v := 0) hx hb hK hP 5 0 0 rfl rfl rfl (Nat.le_of_ble_eq_true rfl) (Nat.le_of_ble_eq_true rfl) rfl dX7_most_63 ?_
    refine lv_ishl hx hb dX7_most_64 ?_
    refine k_int (v := 1) (by decide +kernel) ?_
    refine lv_icmp_ge (tgt := 160) hx hb dX7_most_65 (by decide) (fun q9 => absurd q9 (by decide +kernel)) (fun _ => ?_)
    refine lv_aload_n hx hb dX7_most_68 rfl (lv_at hl 4 rfl) ?_
    refine k_get (D := (dC, dI)) (ci := 7) (v := .ref (p3 72)) (C := RX7) (T := TX7) (N := 92) hx hb hts hinX7 hown hK hP 4 rfl rfl 72 (by decide) w_3 rfl rfl dX7_most_69 ?_
    refine lv_sipush (v := 1024) hx hb dX7_most_72 (by decide +kernel) ?_
    refine lv_iload hx hb dX7_most_75 (lv_at hl 1 rfl) ?_
    refine lv_imul hx hb dX7_most_77 ?_
    refine k_int (v := 0) (by decide +kernel) ?_
    refine lv_iload hx hb dX7_most_78 (lv_at hl 0 rfl) ?_
    refine lv_iadd hx hb dX7_most_80 ?_
    refine k_int (v := 0) (by decide +kernel) ?_
    refine k_iald (v := 0) hx hb hK hP 2 0 0 rfl rfl rfl (Nat.le_of_ble_eq_true rfl) (Nat.le_of_ble_eq_true rfl) rfl dX7_most_81 ?_
    refine lv_istore (lv' := [(7, .int 0), (6, .int 0), (5, .int 0), (4, .int (-1)), (3, .int (-1)), (0, .ref p0), (1, .int 3), (2, .int p2)]) hx hb dX7_most_82 hl (by decide) rfl (fun ls hl => ?_)
    refine lv_iload hx hb dX7_most_84 (lv_at hl 0 rfl) ?_
    refine lv_iconst (v := (-1)) hx hb dX7_most_86 (by decide +kernel) ?_
    refine lv_icmp_ne (tgt := 93) hx hb dX7_most_87 (by decide) (fun _ => ?_) (fun q9 => absurd q9 (by decide +kernel))
    refine lv_aload_n hx hb dX7_most_93 rfl (lv_at hl 5 rfl) ?_
    refine lv_iload hx hb dX7_most_94 (lv_at hl 1 rfl) ?_
    refine lv_iload_n hx hb dX7_most_96 rfl (lv_at hl 4 rfl) ?_
    refine lv_iand hx hb dX7_most_97 ?_
    refine k_int (v := 0) (by decide +kernel) ?_
    refine k_ci (wc := [(p0, .inr (7, oM p3 (upd i7 75 (-1)) j7)), ((p3 14), .inl (cI, 2, .inl (fun _ => 0)))]) (wr := [((p3 49), .inl (cI, 22, .inl (fun _ => 0))), ((p3 50), .inl (cI, 22, .inl (fun _ => 0))), ((p3 72), .inl (cI, 9216, .inl (upd (fun _ => (-1)) 0 0))), ((p3 18), .inl (cI, 2, .inl (fun _ => 0)))]) (fun hPc hDc hFc => va_runV (As := [.int 0]) (rest := []) ⟨hx, hb, hml, hown, hts⟩ (c_X7_worthOf_v1 l dC dI cI cJ cZ cM p0 p3 H.size) (cwV 1 hts gX7_most_X7_worthOf rfl rfl rfl (by decide +kernel) ⟨(Nat.le_of_ble_eq_true rfl), (Nat.le_of_ble_eq_true rfl)⟩) (k_pV hPc hDc hK hN hC hS hFc hP (q0 := 4) (ci := 7) rfl rfl) rfl rfl hl.1 rfl (lv_room (Nat.le_of_ble_eq_true rfl)) dX7_most_98 ⟨(Nat.le_of_ble_eq_true rfl), (Nat.le_of_ble_eq_true rfl)⟩) hP hD hS hA [4, 5] [0, 1, 2, 3] rfl rfl rfl rfl (by decide) (fun _ => rfl) 0 0 rfl rfl (fun r_46 u_47 H locs hw hP hD hS => ?_)
    obtain rfl : r_46 = 0 := hw
    have hP : va_P (dC, dI) vwCl [((p3 49), .inl (cI, 22, .inl (fun _ => 0))), ((p3 50), .inl (cI, 22, .inl (fun _ => 0))), ((p3 72), .inl (cI, 9216, .inl (upd (fun _ => (-1)) 0 0))), ((p3 18), .inl (cI, 2, .inl (fun _ => 0))), (p0, .inr (7, oM p3 (upd i7 75 (-1)) j7)), ((p3 14), .inl (cI, 2, .inl (fun _ => 0)))] H := hP
    have hD : va_D A [((p3 49), .inl (cI, 22, .inl (fun _ => 0))), ((p3 50), .inl (cI, 22, .inl (fun _ => 0))), ((p3 72), .inl (cI, 9216, .inl (upd (fun _ => (-1)) 0 0))), ((p3 18), .inl (cI, 2, .inl (fun _ => 0))), (p0, .inr (7, oM p3 (upd i7 75 (-1)) j7)), ((p3 14), .inl (cI, 2, .inl (fun _ => 0)))] := hD
    refine lv_istore (lv' := [(8, .int 0), (7, .int 0), (6, .int 0), (5, .int 0), (4, .int (-1)), (3, .int (-1)), (0, .ref p0), (1, .int 3), (2, .int p2)]) hx hb dX7_most_101 hl (by decide) rfl (fun ls hl => ?_)
    refine lv_iload hx hb dX7_most_103 (lv_at hl 0 rfl) ?_
    refine lv_iload hx hb dX7_most_105 (lv_at hl 4 rfl) ?_
    refine lv_icmp_lt (tgt := 154) hx hb dX7_most_107 (by decide) (fun q9 => absurd q9 (by decide +kernel)) (fun _ => ?_)
    refine lv_iload hx hb dX7_most_110 (lv_at hl 0 rfl) ?_
    refine lv_iload hx hb dX7_most_112 (lv_at hl 4 rfl) ?_
    refine lv_icmp_ne (tgt := 138) hx hb dX7_most_114 (by decide) (fun _ => ?_) (fun q9 => absurd q9 (by decide +kernel))
    refine lv_iload hx hb dX7_most_138 (lv_at hl 0 rfl) ?_
    refine lv_istore (lv' := [(4, .int 0), (8, .int 0), (7, .int 0), (6, .int 0), (5, .int 0), (3, .int (-1)), (0, .ref p0), (1, .int 3), (2, .int p2)]) hx hb dX7_most_140 hl (by decide) rfl (fun ls hl => ?_)
    refine lv_aload_n hx hb dX7_most_142 rfl (lv_at hl 6 rfl) ?_
    refine lv_iload hx hb dX7_most_143 (lv_at hl 4 rfl) ?_
    refine k_put (D := (dC, dI)) (ci := 7) (v := .int 0) (C := RX7) (T := TX7) (N := 92) (ws' := [((p3 49), .inl (cI, 22, .inl (fun _ => 0))), ((p3 50), .inl (cI, 22, .inl (fun _ => 0))), ((p3 72), .inl (cI, 9216, .inl (upd (fun _ => (-1)) 0 0))), ((p3 18), .inl (cI, 2, .inl (fun _ => 0))), (p0, .inr (7, oM p3 (upd i7 75 0) j7)), ((p3 14), .inl (cI, 2, .inl (fun _ => 0)))]) hx hb hts hinX7 tyX7 tyX7_ok nmX7 hown hK hP hD hS 4 rfl rfl 75 (by decide) w_0 rfl rfl rfl rfl (Nat.le_of_ble_eq_true rfl) rfl dX7_most_145 (fun H locs hP hD hS => ?_)
    refine lv_aload_n hx hb dX7_most_148 rfl (lv_at hl 6 rfl) ?_
    refine lv_iload hx hb dX7_most_149 (lv_at hl 3 rfl) ?_
    refine k_put (D := (dC, dI)) (ci := 7) (v := .int 0) (C := RX7) (T := TX7) (N := 92) (ws' := [((p3 49), .inl (cI, 22, .inl (fun _ => 0))), ((p3 50), .inl (cI, 22, .inl (fun _ => 0))), ((p3 72), .inl (cI, 9216, .inl (upd (fun _ => (-1)) 0 0))), ((p3 18), .inl (cI, 2, .inl (fun _ => 0))), (p0, .inr (7, oM p3 (upd (upd i7 75 0) 76 0) j7)), ((p3 14), .inl (cI, 2, .inl (fun _ => 0)))]) hx hb hts hinX7 tyX7 tyX7_ok nmX7 hown hK hP hD hS 4 rfl rfl 76 (by decide) w_4 rfl rfl rfl rfl (Nat.le_of_ble_eq_true rfl) rfl dX7_most_151 (fun H locs hP hD hS => ?_)
    refine lv_iinc (v := 1) (lv' := [(6, .int 1), (4, .int 0), (8, .int 0), (7, .int 0), (5, .int 0), (3, .int (-1)), (0, .ref p0), (1, .int 3), (2, .int p2)]) hx hb dX7_most_154 hl (k := 3) rfl (by decide +kernel) (by decide) rfl (fun ls hl => ?_)
    refine lv_goto (tgt := 52) hx hb dX7_most_157 (by decide) ?_
    refine lv_iload hx hb dX7_most_52 (lv_at hl 0 rfl) ?_
    refine lv_iconst (v := 1) hx hb dX7_most_54 (by decide +kernel) ?_
    refine lv_aload_n hx hb dX7_most_55 rfl (lv_at hl 6 rfl) ?_
    refine k_get (D := (dC, dI)) (ci := 7) (v := .ref (p3 14)) (C := RX7) (T := TX7) (N := 92) hx hb hts hinX7 hown hK hP 4 rfl rfl 14 (by decide) w_1 rfl rfl dX7_most_56 ?_
    refine lv_aload_n hx hb dX7_most_59 rfl (lv_at hl 6 rfl) ?_
    refine k_get (D := (dC, dI)) (ci := 7) (v := .int 0) (C := RX7) (T := TX7) (N := 92) hx hb hts hinX7 hown hK hP 4 rfl rfl 13 (by decide) w_2 rfl rfl dX7_most_60 ?_
    refine k_iald (v := 0) hx hb hK hP 5 0 0 rfl rfl rfl (Nat.le_of_ble_eq_true rfl) (Nat.le_of_ble_eq_true rfl) rfl dX7_most_63 ?_
    refine lv_ishl hx hb dX7_most_64 ?_
    refine k_int (v := 1) (by decide +kernel) ?_
    refine lv_icmp_ge (tgt := 160) hx hb dX7_most_65 (by decide) (fun _ => ?_) (fun q9 => absurd q9 (by decide +kernel))
    refine lv_iinc (v := 1) (lv' := [(5, .int 1), (6, .int 1), (4, .int 0), (8, .int 0), (7, .int 0), (3, .int (-1)), (0, .ref p0), (1, .int 3), (2, .int p2)]) hx hb dX7_most_160 hl (k := 4) rfl (by decide +kernel) (by decide) rfl (fun ls hl => ?_)
    refine lv_goto (tgt := 43) hx hb dX7_most_163 (by decide) ?_
    refine lv_iload hx hb dX7_most_43 (lv_at hl 0 rfl) ?_
    refine lv_iload_n hx hb dX7_most_45 rfl (lv_at hl 7 rfl) ?_
    refine lv_icmp_gt (tgt := 166) hx hb dX7_most_46 (by decide) (fun q9 => absurd q9 (by decide +kernel)) (fun _ => ?_)
    refine lv_iconst (v := 0) hx hb dX7_most_49 (by decide +kernel) ?_
    refine lv_istore (lv' := [(6, .int 0), (5, .int 1), (4, .int 0), (8, .int 0), (7, .int 0), (3, .int (-1)), (0, .ref p0), (1, .int 3), (2, .int p2)]) hx hb dX7_most_50 hl (by decide) rfl (fun ls hl => ?_)
    refine lv_iload hx hb dX7_most_52 (lv_at hl 0 rfl) ?_
    refine lv_iconst (v := 1) hx hb dX7_most_54 (by decide +kernel) ?_
    refine lv_aload_n hx hb dX7_most_55 rfl (lv_at hl 6 rfl) ?_
    refine k_get (D := (dC, dI)) (ci := 7) (v := .ref (p3 14)) (C := RX7) (T := TX7) (N := 92) hx hb hts hinX7 hown hK hP 4 rfl rfl 14 (by decide) w_1 rfl rfl dX7_most_56 ?_
    refine lv_aload_n hx hb dX7_most_59 rfl (lv_at hl 6 rfl) ?_
    refine k_get (D := (dC, dI)) (ci := 7) (v := .int 0) (C := RX7) (T := TX7) (N := 92) hx hb hts hinX7 hown hK hP 4 rfl rfl 13 (by decide) w_2 rfl rfl dX7_most_60 ?_
    refine k_iald (v := 0) hx hb hK hP 5 0 0 rfl rfl rfl (Nat.le_of_ble_eq_true rfl) (Nat.le_of_ble_eq_true rfl) rfl dX7_most_63 ?_
    refine lv_ishl hx hb dX7_most_64 ?_
    refine k_int (v := 1) (by decide +kernel) ?_
    refine lv_icmp_ge (tgt := 160) hx hb dX7_most_65 (by decide) (fun q9 => absurd q9 (by decide +kernel)) (fun _ => ?_)
    refine lv_aload_n hx hb dX7_most_68 rfl (lv_at hl 6 rfl) ?_
    refine k_get (D := (dC, dI)) (ci := 7) (v := .ref (p3 72)) (C := RX7) (T := TX7) (N := 92) hx hb hts hinX7 hown hK hP 4 rfl rfl 72 (by decide) w_3 rfl rfl dX7_most_69 ?_
    refine lv_sipush (v := 1024) hx hb dX7_most_72 (by decide +kernel) ?_
    refine lv_iload hx hb dX7_most_75 (lv_at hl 1 rfl) ?_
    refine lv_imul hx hb dX7_most_77 ?_
    refine k_int (v := 1024) (by decide +kernel) ?_
    refine lv_iload hx hb dX7_most_78 (lv_at hl 0 rfl) ?_
    refine lv_iadd hx hb dX7_most_80 ?_
    refine k_int (v := 1024) (by decide +kernel) ?_
    refine k_iald (v := (-1)) hx hb hK hP 2 0 1024 rfl rfl rfl (Nat.le_of_ble_eq_true rfl) (Nat.le_of_ble_eq_true rfl) rfl dX7_most_81 ?_
    refine lv_istore (lv' := [(7, .int (-1)), (6, .int 0), (5, .int 1), (4, .int 0), (8, .int 0), (3, .int (-1)), (0, .ref p0), (1, .int 3), (2, .int p2)]) hx hb dX7_most_82 hl (by decide) rfl (fun ls hl => ?_)
    refine lv_iload hx hb dX7_most_84 (lv_at hl 0 rfl) ?_
    refine lv_iconst (v := (-1)) hx hb dX7_most_86 (by decide +kernel) ?_
    refine lv_icmp_ne (tgt := 93) hx hb dX7_most_87 (by decide) (fun q9 => absurd q9 (by decide +kernel)) (fun _ => ?_)
    refine lv_goto (tgt := 154) hx hb dX7_most_90 (by decide) ?_
    refine lv_iinc (v := 1) (lv' := [(6, .int 1), (7, .int (-1)), (5, .int 1), (4, .int 0), (8, .int 0), (3, .int (-1)), (0, .ref p0), (1, .int 3), (2, .int p2)]) hx hb dX7_most_154 hl (k := 1) rfl (by decide +kernel) (by decide) rfl (fun ls hl => ?_)
    refine lv_goto (tgt := 52) hx hb dX7_most_157 (by decide) ?_
    refine lv_iload hx hb dX7_most_52 (lv_at hl 0 rfl) ?_
    refine lv_iconst (v := 1) hx hb dX7_most_54 (by decide +kernel) ?_
    refine lv_aload_n hx hb dX7_most_55 rfl (lv_at hl 6 rfl) ?_
    refine k_get (D := (dC, dI)) (ci := 7) (v := .ref (p3 14)) (C := RX7) (T := TX7) (N := 92) hx hb hts hinX7 hown hK hP 4 rfl rfl 14 (by decide) w_1 rfl rfl dX7_most_56 ?_
    refine lv_aload_n hx hb dX7_most_59 rfl (lv_at hl 6 rfl) ?_
    refine k_get (D := (dC, dI)) (ci := 7) (v := .int 0) (C := RX7) (T := TX7) (N := 92) hx hb hts hinX7 hown hK hP 4 rfl rfl 13 (by decide) w_2 rfl rfl dX7_most_60 ?_
    refine k_iald (v := 0) hx hb hK hP 5 0 0 rfl rfl rfl (Nat.le_of_ble_eq_true rfl) (Nat.le_of_ble_eq_true rfl) rfl dX7_most_63 ?_
    refine lv_ishl hx hb dX7_most_64 ?_
    refine k_int (v := 1) (by decide +kernel) ?_
    refine lv_icmp_ge (tgt := 160) hx hb dX7_most_65 (by decide) (fun _ => ?_) (fun q9 => absurd q9 (by decide +kernel))
    refine lv_iinc (v := 2) (lv' := [(5, .int 2), (6, .int 1), (7, .int (-1)), (4, .int 0), (8, .int 0), (3, .int (-1)), (0, .ref p0), (1, .int 3), (2, .int p2)]) hx hb dX7_most_160 hl (k := 2) rfl (by decide +kernel) (by decide) rfl (fun ls hl => ?_)
    refine lv_goto (tgt := 43) hx hb dX7_most_163 (by decide) ?_
    refine lv_iload hx hb dX7_most_43 (lv_at hl 0 rfl) ?_
    refine lv_iload_n hx hb dX7_most_45 rfl (lv_at hl 7 rfl) ?_
    refine lv_icmp_gt (tgt := 166) hx hb dX7_most_46 (by decide) (fun q9 => absurd q9 (by decide +kernel)) (fun _ => ?_)
    refine lv_iconst (v := 0) hx hb dX7_most_49 (by decide +kernel) ?_
    refine lv_istore (lv' := [(6, .int 0), (5, .int 2), (7, .int (-1)), (4, .int 0), (8, .int 0), (3, .int (-1)), (0, .ref p0), (1, .int 3), (2, .int p2)]) hx hb dX7_most_50 hl (by decide) rfl (fun ls hl => ?_)
    refine lv_iload hx hb dX7_most_52 (lv_at hl 0 rfl) ?_
    refine lv_iconst (v := 1) hx hb dX7_most_54 (by decide +kernel) ?_
    refine lv_aload_n hx hb dX7_most_55 rfl (lv_at hl 6 rfl) ?_
    refine k_get (D := (dC, dI)) (ci := 7) (v := .ref (p3 14)) (C := RX7) (T := TX7) (N := 92) hx hb hts hinX7 hown hK hP 4 rfl rfl 14 (by decide) w_1 rfl rfl dX7_most_56 ?_
    refine lv_aload_n hx hb dX7_most_59 rfl (lv_at hl 6 rfl) ?_
    refine k_get (D := (dC, dI)) (ci := 7) (v := .int 0) (C := RX7) (T := TX7) (N := 92) hx hb hts hinX7 hown hK hP 4 rfl rfl 13 (by decide) w_2 rfl rfl dX7_most_60 ?_
    refine k_iald (v := 0) hx hb hK hP 5 0 0 rfl rfl rfl (Nat.le_of_ble_eq_true rfl) (Nat.le_of_ble_eq_true rfl) rfl dX7_most_63 ?_
    refine lv_ishl hx hb dX7_most_64 ?_
    refine k_int (v := 1) (by decide +kernel) ?_
    refine lv_icmp_ge (tgt := 160) hx hb dX7_most_65 (by decide) (fun q9 => absurd q9 (by decide +kernel)) (fun _ => ?_)
    refine lv_aload_n hx hb dX7_most_68 rfl (lv_at hl 6 rfl) ?_
    refine k_get (D := (dC, dI)) (ci := 7) (v := .ref (p3 72)) (C := RX7) (T := TX7) (N := 92) hx hb hts hinX7 hown hK hP 4 rfl rfl 72 (by decide) w_3 rfl rfl dX7_most_69 ?_
    refine lv_sipush (v := 1024) hx hb dX7_most_72 (by decide +kernel) ?_
    refine lv_iload hx hb dX7_most_75 (lv_at hl 1 rfl) ?_
    refine lv_imul hx hb dX7_most_77 ?_
    refine k_int (v := 2048) (by decide +kernel) ?_
    refine lv_iload hx hb dX7_most_78 (lv_at hl 0 rfl) ?_
    refine lv_iadd hx hb dX7_most_80 ?_
    refine k_int (v := 2048) (by decide +kernel) ?_
    refine k_iald (v := (-1)) hx hb hK hP 2 0 2048 rfl rfl rfl (Nat.le_of_ble_eq_true rfl) (Nat.le_of_ble_eq_true rfl) rfl dX7_most_81 ?_
    refine lv_istore (lv' := [(7, .int (-1)), (6, .int 0), (5, .int 2), (4, .int 0), (8, .int 0), (3, .int (-1)), (0, .ref p0), (1, .int 3), (2, .int p2)]) hx hb dX7_most_82 hl (by decide) rfl (fun ls hl => ?_)
    refine lv_iload hx hb dX7_most_84 (lv_at hl 0 rfl) ?_
    refine lv_iconst (v := (-1)) hx hb dX7_most_86 (by decide +kernel) ?_
    refine lv_icmp_ne (tgt := 93) hx hb dX7_most_87 (by decide) (fun q9 => absurd q9 (by decide +kernel)) (fun _ => ?_)
    refine lv_goto (tgt := 154) hx hb dX7_most_90 (by decide) ?_
    refine lv_iinc (v := 1) (lv' := [(6, .int 1), (7, .int (-1)), (5, .int 2), (4, .int 0), (8, .int 0), (3, .int (-1)), (0, .ref p0), (1, .int 3), (2, .int p2)]) hx hb dX7_most_154 hl (k := 1) rfl (by decide +kernel) (by decide) rfl (fun ls hl => ?_)
    refine lv_goto (tgt := 52) hx hb dX7_most_157 (by decide) ?_
    refine lv_iload hx hb dX7_most_52 (lv_at hl 0 rfl) ?_
    refine lv_iconst (v := 1) hx hb dX7_most_54 (by decide +kernel) ?_
    refine lv_aload_n hx hb dX7_most_55 rfl (lv_at hl 6 rfl) ?_
    refine k_get (D := (dC, dI)) (ci := 7) (v := .ref (p3 14)) (C := RX7) (T := TX7) (N := 92) hx hb hts hinX7 hown hK hP 4 rfl rfl 14 (by decide) w_1 rfl rfl dX7_most_56 ?_
    refine lv_aload_n hx hb dX7_most_59 rfl (lv_at hl 6 rfl) ?_
    refine k_get (D := (dC, dI)) (ci := 7) (v := .int 0) (C := RX7) (T := TX7) (N := 92) hx hb hts hinX7 hown hK hP 4 rfl rfl 13 (by decide) w_2 rfl rfl dX7_most_60 ?_
    refine k_iald (v := 0) hx hb hK hP 5 0 0 rfl rfl rfl (Nat.le_of_ble_eq_true rfl) (Nat.le_of_ble_eq_true rfl) rfl dX7_most_63 ?_
    refine lv_ishl hx hb dX7_most_64 ?_
    refine k_int (v := 1) (by decide +kernel) ?_
    refine lv_icmp_ge (tgt := 160) hx hb dX7_most_65 (by decide) (fun _ => ?_) (fun q9 => absurd q9 (by decide +kernel))
    refine lv_iinc (v := 3) (lv' := [(5, .int 3), (6, .int 1), (7, .int (-1)), (4, .int 0), (8, .int 0), (3, .int (-1)), (0, .ref p0), (1, .int 3), (2, .int p2)]) hx hb dX7_most_160 hl (k := 2) rfl (by decide +kernel) (by decide) rfl (fun ls hl => ?_)
    refine lv_goto (tgt := 43) hx hb dX7_most_163 (by decide) ?_
    refine lv_iload hx hb dX7_most_43 (lv_at hl 0 rfl) ?_
    refine lv_iload_n hx hb dX7_most_45 rfl (lv_at hl 7 rfl) ?_
    refine lv_icmp_gt (tgt := 166) hx hb dX7_most_46 (by decide) (fun q9 => absurd q9 (by decide +kernel)) (fun _ => ?_)
    refine lv_iconst (v := 0) hx hb dX7_most_49 (by decide +kernel) ?_
    refine lv_istore (lv' := [(6, .int 0), (5, .int 3), (7, .int (-1)), (4, .int 0), (8, .int 0), (3, .int (-1)), (0, .ref p0), (1, .int 3), (2, .int p2)]) hx hb dX7_most_50 hl (by decide) rfl (fun ls hl => ?_)
    refine lv_iload hx hb dX7_most_52 (lv_at hl 0 rfl) ?_
    refine lv_iconst (v := 1) hx hb dX7_most_54 (by decide +kernel) ?_
    refine lv_aload_n hx hb dX7_most_55 rfl (lv_at hl 6 rfl) ?_
    refine k_get (D := (dC, dI)) (ci := 7) (v := .ref (p3 14)) (C := RX7) (T := TX7) (N := 92) hx hb hts hinX7 hown hK hP 4 rfl rfl 14 (by decide) w_1 rfl rfl dX7_most_56 ?_
    refine lv_aload_n hx hb dX7_most_59 rfl (lv_at hl 6 rfl) ?_
    refine k_get (D := (dC, dI)) (ci := 7) (v := .int 0) (C := RX7) (T := TX7) (N := 92) hx hb hts hinX7 hown hK hP 4 rfl rfl 13 (by decide) w_2 rfl rfl dX7_most_60 ?_
    refine k_iald (v := 0) hx hb hK hP 5 0 0 rfl rfl rfl (Nat.le_of_ble_eq_true rfl) (Nat.le_of_ble_eq_true rfl) rfl dX7_most_63 ?_
    refine lv_ishl hx hb dX7_most_64 ?_
    refine k_int (v := 1) (by decide +kernel) ?_
    refine lv_icmp_ge (tgt := 160) hx hb dX7_most_65 (by decide) (fun q9 => absurd q9 (by decide +kernel)) (fun _ => ?_)
    refine lv_aload_n hx hb dX7_most_68 rfl (lv_at hl 6 rfl) ?_
    refine k_get (D := (dC, dI)) (ci := 7) (v := .ref (p3 72)) (C := RX7) (T := TX7) (N := 92) hx hb hts hinX7 hown hK hP 4 rfl rfl 72 (by decide) w_3 rfl rfl dX7_most_69 ?_
    refine lv_sipush (v := 1024) hx hb dX7_most_72 (by decide +kernel) ?_
    refine lv_iload hx hb dX7_most_75 (lv_at hl 1 rfl) ?_
    refine lv_imul hx hb dX7_most_77 ?_
    refine k_int (v := 3072) (by decide +kernel) ?_
    refine lv_iload hx hb dX7_most_78 (lv_at hl 0 rfl) ?_
    refine lv_iadd hx hb dX7_most_80 ?_
    refine k_int (v := 3072) (by decide +kernel) ?_
    refine k_iald (v := (-1)) hx hb hK hP 2 0 3072 rfl rfl rfl (Nat.le_of_ble_eq_true rfl) (Nat.le_of_ble_eq_true rfl) rfl dX7_most_81 ?_
    refine lv_istore (lv' := [(7, .int (-1)), (6, .int 0), (5, .int 3), (4, .int 0), (8, .int 0), (3, .int (-1)), (0, .ref p0), (1, .int 3), (2, .int p2)]) hx hb dX7_most_82 hl (by decide) rfl (fun ls hl => ?_)
    refine lv_iload hx hb dX7_most_84 (lv_at hl 0 rfl) ?_
    refine lv_iconst (v := (-1)) hx hb dX7_most_86 (by decide +kernel) ?_
    refine lv_icmp_ne (tgt := 93) hx hb dX7_most_87 (by decide) (fun q9 => absurd q9 (by decide +kernel)) (fun _ => ?_)
    refine lv_goto (tgt := 154) hx hb dX7_most_90 (by decide) ?_
    refine lv_iinc (v := 1) (lv' := [(6, .int 1), (7, .int (-1)), (5, .int 3), (4, .int 0), (8, .int 0), (3, .int (-1)), (0, .ref p0), (1, .int 3), (2, .int p2)]) hx hb dX7_most_154 hl (k := 1) rfl (by decide +kernel) (by decide) rfl (fun ls hl => ?_)
    refine lv_goto (tgt := 52) hx hb dX7_most_157 (by decide) ?_
    refine lv_iload hx hb dX7_most_52 (lv_at hl 0 rfl) ?_
    refine lv_iconst (v := 1) hx hb dX7_most_54 (by decide +kernel) ?_
    refine lv_aload_n hx hb dX7_most_55 rfl (lv_at hl 6 rfl) ?_
    refine k_get (D := (dC, dI)) (ci := 7) (v := .ref (p3 14)) (C := RX7) (T := TX7) (N := 92) hx hb hts hinX7 hown hK hP 4 rfl rfl 14 (by decide) w_1 rfl rfl dX7_most_56 ?_
    refine lv_aload_n hx hb dX7_most_59 rfl (lv_at hl 6 rfl) ?_
    refine k_get (D := (dC, dI)) (ci := 7) (v := .int 0) (C := RX7) (T := TX7) (N := 92) hx hb hts hinX7 hown hK hP 4 rfl rfl 13 (by decide) w_2 rfl rfl dX7_most_60 ?_
    refine k_iald (v := 0) hx hb hK hP 5 0 0 rfl rfl rfl (Nat.le_of_ble_eq_true rfl) (Nat.le_of_ble_eq_true rfl) rfl dX7_most_63 ?_
    refine lv_ishl hx hb dX7_most_64 ?_
    refine k_int (v := 1) (by decide +kernel) ?_
    refine lv_icmp_ge (tgt := 160) hx hb dX7_most_65 (by decide) (fun _ => ?_) (fun q9 => absurd q9 (by decide +kernel))
    refine lv_iinc (v := 4) (lv' := [(5, .int 4), (6, .int 1), (7, .int (-1)), (4, .int 0), (8, .int 0), (3, .int (-1)), (0, .ref p0), (1, .int 3), (2, .int p2)]) hx hb dX7_most_160 hl (k := 2) rfl (by decide +kernel) (by decide) rfl (fun ls hl => ?_)
    refine lv_goto (tgt := 43) hx hb dX7_most_163 (by decide) ?_
    refine lv_iload hx hb dX7_most_43 (lv_at hl 0 rfl) ?_
    refine lv_iload_n hx hb dX7_most_45 rfl (lv_at hl 7 rfl) ?_
    refine lv_icmp_gt (tgt := 166) hx hb dX7_most_46 (by decide) (fun _ => ?_) (fun q9 => absurd q9 (by decide +kernel))
    refine lv_iload_n hx hb dX7_most_166 rfl (lv_at hl 8 rfl) ?_
    refine lv_if_ne (tgt := 175) hx hb dX7_most_167 (by decide) (fun c_48 => ?_) (fun c_48 => ?_)
    · have c_48 : ¬ p2.toInt = 0 := k_eqF rfl (by decide +kernel) c_48
      refine lv_iload_n hx hb dX7_most_175 rfl (lv_at hl 8 rfl) ?_
      refine lv_iconst (v := 1) hx hb dX7_most_176 (by decide +kernel) ?_
      refine lv_icmp_ne (tgt := 187) hx hb dX7_most_177 (by decide) (fun c_49 => ?_) (fun c_49 => ?_)
      · have c_49 : ¬ p2.toInt = 1 := k_eqF rfl (by decide +kernel) c_49
        exfalso; omega
      · have c_49 : p2.toInt = 1 := k_eqT rfl (by decide +kernel) c_49
        refine lv_aload_n hx hb dX7_most_180 rfl (lv_at hl 6 rfl) ?_
        refine k_get (D := (dC, dI)) (ci := 7) (v := .int 0) (C := RX7) (T := TX7) (N := 92) hx hb hts hinX7 hown hK hP 4 rfl rfl 75 (by decide) w_0 rfl rfl dX7_most_181 ?_
        refine lv_goto (tgt := 203) hx hb dX7_most_184 (by decide) ?_
        exact k_ri B hP hD hS dX7_most_203 () [4, 0, 1, 2, 5, 3] rfl rfl rfl (Nat.le_of_ble_eq_true rfl) (Nat.le_of_ble_eq_true rfl) rfl
    · have c_48 : p2.toInt = 0 := k_eqT rfl (by decide +kernel) c_48
      exfalso; omega
  · obtain rfl : p1 = 4 := k_eqL (by decide +kernel) c_1
    refine lv_iload_n hx hb dX7_most_0 rfl (lv_at hl 1 rfl) ?_
    refine lv_iconst (v := 0) hx hb dX7_most_1 (by decide +kernel) ?_
    refine lv_bipush (v := 8) hx hb dX7_most_2 (by decide +kernel) ?_
    refine k_ci (wc := []) (wr := [(p0, .inr (7, oM p3 i7 j7)), ((p3 49), .inl (cI, 22, .inl (fun _ => 0))), ((p3 50), .inl (cI, 22, .inl (fun _ => 0))), ((p3 72), .inl (cI, 9216, .inl (fun _ => 0))), ((p3 14), .inl (cI, 2, .inl (fun _ => 0))), ((p3 18), .inl (cI, 2, .inl (fun _ => 0)))]) (fun hPc hDc hFc => va_runS (As := [.int 4, .int 0, .int 8]) (rest := []) ⟨hx, hb, hml, hown, hts⟩ (c_X7_is_v10 l dC dI cI cJ cZ cM H.size) (va_cwS 3 hts gX7_most_X7_is rfl rfl rfl (by decide +kernel) ⟨(Nat.le_of_ble_eq_true rfl), (Nat.le_of_ble_eq_true rfl)⟩) (k_pS hPc hDc hK hN hC hS hFc) rfl rfl hl.1 rfl (lv_room (Nat.le_of_ble_eq_true rfl)) dX7_most_4 ⟨(Nat.le_of_ble_eq_true rfl), (Nat.le_of_ble_eq_true rfl)⟩) hP hD hS hA [] [0, 1, 2, 3, 4, 5] rfl rfl rfl rfl (by decide) (fun _ => rfl) 0 0 rfl rfl (fun r_50 u_51 H locs hw hP hD hS => ?_)
    obtain rfl : r_50 = 1 := hw
    have hP : va_P (dC, dI) vwCl [(p0, .inr (7, oM p3 i7 j7)), ((p3 49), .inl (cI, 22, .inl (fun _ => 0))), ((p3 50), .inl (cI, 22, .inl (fun _ => 0))), ((p3 72), .inl (cI, 9216, .inl (fun _ => 0))), ((p3 14), .inl (cI, 2, .inl (fun _ => 0))), ((p3 18), .inl (cI, 2, .inl (fun _ => 0)))] H := hP
    have hD : va_D A [(p0, .inr (7, oM p3 i7 j7)), ((p3 49), .inl (cI, 22, .inl (fun _ => 0))), ((p3 50), .inl (cI, 22, .inl (fun _ => 0))), ((p3 72), .inl (cI, 9216, .inl (fun _ => 0))), ((p3 14), .inl (cI, 2, .inl (fun _ => 0))), ((p3 18), .inl (cI, 2, .inl (fun _ => 0)))] := hD
    refine lv_if_eq (tgt := 19) hx hb dX7_most_7 (by decide) (fun q9 => absurd q9 (by decide +kernel)) (fun _ => ?_)
    refine lv_iload_n hx hb dX7_most_10 rfl (lv_at hl 2 rfl) ?_
    refine lv_iconst (v := 0) hx hb dX7_most_11 (by decide +kernel) ?_
    refine lv_iconst (v := 3) hx hb dX7_most_12 (by decide +kernel) ?_
    refine k_ci (wc := []) (wr := [(p0, .inr (7, oM p3 i7 j7)), ((p3 49), .inl (cI, 22, .inl (fun _ => 0))), ((p3 50), .inl (cI, 22, .inl (fun _ => 0))), ((p3 72), .inl (cI, 9216, .inl (fun _ => 0))), ((p3 14), .inl (cI, 2, .inl (fun _ => 0))), ((p3 18), .inl (cI, 2, .inl (fun _ => 0)))]) (fun hPc hDc hFc => va_runS (As := [.int p2, .int 0, .int 3]) (rest := []) ⟨hx, hb, hml, hown, hts⟩ (c_X7_is_v21 l dC dI cI cJ cZ cM p2 (by omega) (by omega) H.size) (va_cwS 3 hts gX7_most_X7_is rfl rfl rfl (by decide +kernel) ⟨(Nat.le_of_ble_eq_true rfl), (Nat.le_of_ble_eq_true rfl)⟩) (k_pS hPc hDc hK hN hC hS hFc) rfl rfl hl.1 rfl (lv_room (Nat.le_of_ble_eq_true rfl)) dX7_most_13 ⟨(Nat.le_of_ble_eq_true rfl), (Nat.le_of_ble_eq_true rfl)⟩) hP hD hS hA [] [0, 1, 2, 3, 4, 5] rfl rfl rfl rfl (by decide) (fun _ => rfl) 0 0 rfl rfl (fun r_52 u_53 H locs hw hP hD hS => ?_)
    obtain rfl : r_52 = 1 := hw
    have hP : va_P (dC, dI) vwCl [(p0, .inr (7, oM p3 i7 j7)), ((p3 49), .inl (cI, 22, .inl (fun _ => 0))), ((p3 50), .inl (cI, 22, .inl (fun _ => 0))), ((p3 72), .inl (cI, 9216, .inl (fun _ => 0))), ((p3 14), .inl (cI, 2, .inl (fun _ => 0))), ((p3 18), .inl (cI, 2, .inl (fun _ => 0)))] H := hP
    have hD : va_D A [(p0, .inr (7, oM p3 i7 j7)), ((p3 49), .inl (cI, 22, .inl (fun _ => 0))), ((p3 50), .inl (cI, 22, .inl (fun _ => 0))), ((p3 72), .inl (cI, 9216, .inl (fun _ => 0))), ((p3 14), .inl (cI, 2, .inl (fun _ => 0))), ((p3 18), .inl (cI, 2, .inl (fun _ => 0)))] := hD
    refine lv_if_ne (tgt := 21) hx hb dX7_most_16 (by decide) (fun _ => ?_) (fun q9 => absurd q9 (by decide +kernel))
    refine lv_aload_n hx hb dX7_most_21 rfl (lv_at hl 0 rfl) ?_
    refine k_cv (wc := [(p0, .inr (7, oM p3 i7 j7)), ((p3 49), .inl (cI, 22, .inl (fun _ => 0))), ((p3 50), .inl (cI, 22, .inl (fun _ => 0))), ((p3 72), .inl (cI, 9216, .inl (fun _ => 0))), ((p3 14), .inl (cI, 2, .inl (fun _ => 0))), ((p3 18), .inl (cI, 2, .inl (fun _ => 0)))]) (wr := []) (fun hPc hDc hFc => va_runV (As := []) (rest := []) ⟨hx, hb, hml, hown, hts⟩ (c_X7_climbs_v0 l dC dI cI cJ cZ cM p0 p3 H.size) (cwV 0 hts gX7_most_X7_climbs rfl rfl rfl (by decide +kernel) ⟨(Nat.le_of_ble_eq_true rfl), (Nat.le_of_ble_eq_true rfl)⟩) (k_pV hPc hDc hK hN hC hS hFc hP (q0 := 0) (ci := 7) rfl rfl) rfl rfl hl.1 rfl (lv_room (Nat.le_of_ble_eq_true rfl)) dX7_most_22 ⟨(Nat.le_of_ble_eq_true rfl), (Nat.le_of_ble_eq_true rfl)⟩) hP hD hS hA [0, 1, 2, 3, 4, 5] [] rfl rfl rfl rfl (by decide) (fun _ => rfl) 0 0 rfl rfl (fun u_55 H locs hw hP hD hS => ?_)
    have hP : va_P (dC, dI) vwCl [(p0, .inr (7, oM p3 i7 j7)), ((p3 49), .inl (cI, 22, .inl (fun _ => 0))), ((p3 50), .inl (cI, 22, .inl (fun _ => 0))), ((p3 72), .inl (cI, 9216, .inl (upd (fun _ => (-1)) 0 0))), ((p3 14), .inl (cI, 2, .inl (fun _ => 0))), ((p3 18), .inl (cI, 2, .inl (fun _ => 0)))] H := hP
    have hD : va_D A [(p0, .inr (7, oM p3 i7 j7)), ((p3 49), .inl (cI, 22, .inl (fun _ => 0))), ((p3 50), .inl (cI, 22, .inl (fun _ => 0))), ((p3 72), .inl (cI, 9216, .inl (upd (fun _ => (-1)) 0 0))), ((p3 14), .inl (cI, 2, .inl (fun _ => 0))), ((p3 18), .inl (cI, 2, .inl (fun _ => 0)))] := hD
    refine lv_aload_n hx hb dX7_most_25 rfl (lv_at hl 0 rfl) ?_
    refine k_ci (wc := [(p0, .inr (7, oM p3 i7 j7)), ((p3 14), .inl (cI, 2, .inl (fun _ => 0)))]) (wr := [((p3 49), .inl (cI, 22, .inl (fun _ => 0))), ((p3 50), .inl (cI, 22, .inl (fun _ => 0))), ((p3 72), .inl (cI, 9216, .inl (upd (fun _ => (-1)) 0 0))), ((p3 18), .inl (cI, 2, .inl (fun _ => 0)))]) (fun hPc hDc hFc => va_runV (As := []) (rest := []) ⟨hx, hb, hml, hown, hts⟩ (c_X7_briefOnes_v2 l dC dI cI cJ cZ cM p0 p3 H.size) (cwV 0 hts gX7_most_X7_briefOnes rfl rfl rfl (by decide +kernel) ⟨(Nat.le_of_ble_eq_true rfl), (Nat.le_of_ble_eq_true rfl)⟩) (k_pV hPc hDc hK hN hC hS hFc hP (q0 := 0) (ci := 7) rfl rfl) rfl rfl hl.1 rfl (lv_room (Nat.le_of_ble_eq_true rfl)) dX7_most_26 ⟨(Nat.le_of_ble_eq_true rfl), (Nat.le_of_ble_eq_true rfl)⟩) hP hD hS hA [0, 4] [1, 2, 3, 5] rfl rfl rfl rfl (by decide) (fun _ => rfl) 0 0 rfl rfl (fun r_56 u_57 H locs hw hP hD hS => ?_)
    obtain rfl : r_56 = 0 := hw
    have hP : va_P (dC, dI) vwCl [((p3 49), .inl (cI, 22, .inl (fun _ => 0))), ((p3 50), .inl (cI, 22, .inl (fun _ => 0))), ((p3 72), .inl (cI, 9216, .inl (upd (fun _ => (-1)) 0 0))), ((p3 18), .inl (cI, 2, .inl (fun _ => 0))), (p0, .inr (7, oM p3 i7 j7)), ((p3 14), .inl (cI, 2, .inl (fun _ => 0)))] H := hP
    have hD : va_D A [((p3 49), .inl (cI, 22, .inl (fun _ => 0))), ((p3 50), .inl (cI, 22, .inl (fun _ => 0))), ((p3 72), .inl (cI, 9216, .inl (upd (fun _ => (-1)) 0 0))), ((p3 18), .inl (cI, 2, .inl (fun _ => 0))), (p0, .inr (7, oM p3 i7 j7)), ((p3 14), .inl (cI, 2, .inl (fun _ => 0)))] := hD
    refine lv_iconst (v := (-1)) hx hb dX7_most_29 (by decide +kernel) ?_
    refine lv_ixor hx hb dX7_most_30 ?_
    refine k_int (v := (-1)) (by decide +kernel) ?_
    refine lv_istore_n (lv' := [(3, .int (-1)), (0, .ref p0), (1, .int 4), (2, .int p2)]) hx hb dX7_most_31 rfl hl (by decide) rfl (fun ls hl => ?_)
    refine lv_aload_n hx hb dX7_most_32 rfl (lv_at hl 1 rfl) ?_
    refine lv_iconst (v := (-1)) hx hb dX7_most_33 (by decide +kernel) ?_
    refine k_put (D := (dC, dI)) (ci := 7) (v := .int (-1)) (C := RX7) (T := TX7) (N := 92) (ws' := [((p3 49), .inl (cI, 22, .inl (fun _ => 0))), ((p3 50), .inl (cI, 22, .inl (fun _ => 0))), ((p3 72), .inl (cI, 9216, .inl (upd (fun _ => (-1)) 0 0))), ((p3 18), .inl (cI, 2, .inl (fun _ => 0))), (p0, .inr (7, oM p3 (upd i7 75 (-1)) j7)), ((p3 14), .inl (cI, 2, .inl (fun _ => 0)))]) hx hb hts hinX7 tyX7 tyX7_ok nmX7 hown hK hP hD hS 4 rfl rfl 75 (by decide) w_0 rfl rfl rfl rfl (Nat.le_of_ble_eq_true rfl) rfl dX7_most_34 (fun H locs hP hD hS => ?_)
    refine lv_iconst (v := (-1)) hx hb dX7_most_37 (by decide +kernel) ?_
    refine lv_istore (lv' := [(4, .int (-1)), (3, .int (-1)), (0, .ref p0), (1, .int 4), (2, .int p2)]) hx hb dX7_most_38 hl (by decide) rfl (fun ls hl => ?_)
    refine lv_iconst (v := 0) hx hb dX7_most_40 (by decide +kernel) ?_
    refine lv_istore (lv' := [(5, .int 0), (4, .int (-1)), (3, .int (-1)), (0, .ref p0), (1, .int 4), (2, .int p2)]) hx hb dX7_most_41 hl (by decide) rfl (fun ls hl => ?_)
    refine lv_iload hx hb dX7_most_43 (lv_at hl 0 rfl) ?_
    refine lv_iload_n hx hb dX7_most_45 rfl (lv_at hl 4 rfl) ?_
    refine lv_icmp_gt (tgt := 166) hx hb dX7_most_46 (by decide) (fun q9 => absurd q9 (by decide +kernel)) (fun _ => ?_)
    refine lv_iconst (v := 0) hx hb dX7_most_49 (by decide +kernel) ?_
    refine lv_istore (lv' := [(6, .int 0), (5, .int 0), (4, .int (-1)), (3, .int (-1)), (0, .ref p0), (1, .int 4), (2, .int p2)]) hx hb dX7_most_50 hl (by decide) rfl (fun ls hl => ?_)
    refine lv_iload hx hb dX7_most_52 (lv_at hl 0 rfl) ?_
    refine lv_iconst (v := 1) hx hb dX7_most_54 (by decide +kernel) ?_
    refine lv_aload_n hx hb dX7_most_55 rfl (lv_at hl 4 rfl) ?_
    refine k_get (D := (dC, dI)) (ci := 7) (v := .ref (p3 14)) (C := RX7) (T := TX7) (N := 92) hx hb hts hinX7 hown hK hP 4 rfl rfl 14 (by decide) w_1 rfl rfl dX7_most_56 ?_
    refine lv_aload_n hx hb dX7_most_59 rfl (lv_at hl 4 rfl) ?_
    refine k_get (D := (dC, dI)) (ci := 7) (v := .int 0) (C := RX7) (T := TX7) (N := 92) hx hb hts hinX7 hown hK hP 4 rfl rfl 13 (by decide) w_2 rfl rfl dX7_most_60 ?_
    refine k_iald (v := 0) hx hb hK hP 5 0 0 rfl rfl rfl (Nat.le_of_ble_eq_true rfl) (Nat.le_of_ble_eq_true rfl) rfl dX7_most_63 ?_
    refine lv_ishl hx hb dX7_most_64 ?_
    refine k_int (v := 1) (by decide +kernel) ?_
    refine lv_icmp_ge (tgt := 160) hx hb dX7_most_65 (by decide) (fun q9 => absurd q9 (by decide +kernel)) (fun _ => ?_)
    refine lv_aload_n hx hb dX7_most_68 rfl (lv_at hl 4 rfl) ?_
    refine k_get (D := (dC, dI)) (ci := 7) (v := .ref (p3 72)) (C := RX7) (T := TX7) (N := 92) hx hb hts hinX7 hown hK hP 4 rfl rfl 72 (by decide) w_3 rfl rfl dX7_most_69 ?_
    refine lv_sipush (v := 1024) hx hb dX7_most_72 (by decide +kernel) ?_
    refine lv_iload hx hb dX7_most_75 (lv_at hl 1 rfl) ?_
    refine lv_imul hx hb dX7_most_77 ?_
    refine k_int (v := 0) (by decide +kernel) ?_
    refine lv_iload hx hb dX7_most_78 (lv_at hl 0 rfl) ?_
    refine lv_iadd hx hb dX7_most_80 ?_
    refine k_int (v := 0) (by decide +kernel) ?_
    refine k_iald (v := 0) hx hb hK hP 2 0 0 rfl rfl rfl (Nat.le_of_ble_eq_true rfl) (Nat.le_of_ble_eq_true rfl) rfl dX7_most_81 ?_
    refine lv_istore (lv' := [(7, .int 0), (6, .int 0), (5, .int 0), (4, .int (-1)), (3, .int (-1)), (0, .ref p0), (1, .int 4), (2, .int p2)]) hx hb dX7_most_82 hl (by decide) rfl (fun ls hl => ?_)
    refine lv_iload hx hb dX7_most_84 (lv_at hl 0 rfl) ?_
    refine lv_iconst (v := (-1)) hx hb dX7_most_86 (by decide +kernel) ?_
    refine lv_icmp_ne (tgt := 93) hx hb dX7_most_87 (by decide) (fun _ => ?_) (fun q9 => absurd q9 (by decide +kernel))
    refine lv_aload_n hx hb dX7_most_93 rfl (lv_at hl 5 rfl) ?_
    refine lv_iload hx hb dX7_most_94 (lv_at hl 1 rfl) ?_
    refine lv_iload_n hx hb dX7_most_96 rfl (lv_at hl 4 rfl) ?_
    refine lv_iand hx hb dX7_most_97 ?_
    refine k_int (v := 0) (by decide +kernel) ?_
    refine k_ci (wc := [(p0, .inr (7, oM p3 (upd i7 75 (-1)) j7)), ((p3 14), .inl (cI, 2, .inl (fun _ => 0)))]) (wr := [((p3 49), .inl (cI, 22, .inl (fun _ => 0))), ((p3 50), .inl (cI, 22, .inl (fun _ => 0))), ((p3 72), .inl (cI, 9216, .inl (upd (fun _ => (-1)) 0 0))), ((p3 18), .inl (cI, 2, .inl (fun _ => 0)))]) (fun hPc hDc hFc => va_runV (As := [.int 0]) (rest := []) ⟨hx, hb, hml, hown, hts⟩ (c_X7_worthOf_v1 l dC dI cI cJ cZ cM p0 p3 H.size) (cwV 1 hts gX7_most_X7_worthOf rfl rfl rfl (by decide +kernel) ⟨(Nat.le_of_ble_eq_true rfl), (Nat.le_of_ble_eq_true rfl)⟩) (k_pV hPc hDc hK hN hC hS hFc hP (q0 := 4) (ci := 7) rfl rfl) rfl rfl hl.1 rfl (lv_room (Nat.le_of_ble_eq_true rfl)) dX7_most_98 ⟨(Nat.le_of_ble_eq_true rfl), (Nat.le_of_ble_eq_true rfl)⟩) hP hD hS hA [4, 5] [0, 1, 2, 3] rfl rfl rfl rfl (by decide) (fun _ => rfl) 0 0 rfl rfl (fun r_58 u_59 H locs hw hP hD hS => ?_)
    obtain rfl : r_58 = 0 := hw
    have hP : va_P (dC, dI) vwCl [((p3 49), .inl (cI, 22, .inl (fun _ => 0))), ((p3 50), .inl (cI, 22, .inl (fun _ => 0))), ((p3 72), .inl (cI, 9216, .inl (upd (fun _ => (-1)) 0 0))), ((p3 18), .inl (cI, 2, .inl (fun _ => 0))), (p0, .inr (7, oM p3 (upd i7 75 (-1)) j7)), ((p3 14), .inl (cI, 2, .inl (fun _ => 0)))] H := hP
    have hD : va_D A [((p3 49), .inl (cI, 22, .inl (fun _ => 0))), ((p3 50), .inl (cI, 22, .inl (fun _ => 0))), ((p3 72), .inl (cI, 9216, .inl (upd (fun _ => (-1)) 0 0))), ((p3 18), .inl (cI, 2, .inl (fun _ => 0))), (p0, .inr (7, oM p3 (upd i7 75 (-1)) j7)), ((p3 14), .inl (cI, 2, .inl (fun _ => 0)))] := hD
    refine lv_istore (lv' := [(8, .int 0), (7, .int 0), (6, .int 0), (5, .int 0), (4, .int (-1)), (3, .int (-1)), (0, .ref p0), (1, .int 4), (2, .int p2)]) hx hb dX7_most_101 hl (by decide) rfl (fun ls hl => ?_)
    refine lv_iload hx hb dX7_most_103 (lv_at hl 0 rfl) ?_
    refine lv_iload hx hb dX7_most_105 (lv_at hl 4 rfl) ?_
    refine lv_icmp_lt (tgt := 154) hx hb dX7_most_107 (by decide) (fun q9 => absurd q9 (by decide +kernel)) (fun _ => ?_)
    refine lv_iload hx hb dX7_most_110 (lv_at hl 0 rfl) ?_
    refine lv_iload hx hb dX7_most_112 (lv_at hl 4 rfl) ?_
    refine lv_icmp_ne (tgt := 138) hx hb dX7_most_114 (by decide) (fun _ => ?_) (fun q9 => absurd q9 (by decide +kernel))
    refine lv_iload hx hb dX7_most_138 (lv_at hl 0 rfl) ?_
    refine lv_istore (lv' := [(4, .int 0), (8, .int 0), (7, .int 0), (6, .int 0), (5, .int 0), (3, .int (-1)), (0, .ref p0), (1, .int 4), (2, .int p2)]) hx hb dX7_most_140 hl (by decide) rfl (fun ls hl => ?_)
    refine lv_aload_n hx hb dX7_most_142 rfl (lv_at hl 6 rfl) ?_
    refine lv_iload hx hb dX7_most_143 (lv_at hl 4 rfl) ?_
    refine k_put (D := (dC, dI)) (ci := 7) (v := .int 0) (C := RX7) (T := TX7) (N := 92) (ws' := [((p3 49), .inl (cI, 22, .inl (fun _ => 0))), ((p3 50), .inl (cI, 22, .inl (fun _ => 0))), ((p3 72), .inl (cI, 9216, .inl (upd (fun _ => (-1)) 0 0))), ((p3 18), .inl (cI, 2, .inl (fun _ => 0))), (p0, .inr (7, oM p3 (upd i7 75 0) j7)), ((p3 14), .inl (cI, 2, .inl (fun _ => 0)))]) hx hb hts hinX7 tyX7 tyX7_ok nmX7 hown hK hP hD hS 4 rfl rfl 75 (by decide) w_0 rfl rfl rfl rfl (Nat.le_of_ble_eq_true rfl) rfl dX7_most_145 (fun H locs hP hD hS => ?_)
    refine lv_aload_n hx hb dX7_most_148 rfl (lv_at hl 6 rfl) ?_
    refine lv_iload hx hb dX7_most_149 (lv_at hl 3 rfl) ?_
    refine k_put (D := (dC, dI)) (ci := 7) (v := .int 0) (C := RX7) (T := TX7) (N := 92) (ws' := [((p3 49), .inl (cI, 22, .inl (fun _ => 0))), ((p3 50), .inl (cI, 22, .inl (fun _ => 0))), ((p3 72), .inl (cI, 9216, .inl (upd (fun _ => (-1)) 0 0))), ((p3 18), .inl (cI, 2, .inl (fun _ => 0))), (p0, .inr (7, oM p3 (upd (upd i7 75 0) 76 0) j7)), ((p3 14), .inl (cI, 2, .inl (fun _ => 0)))]) hx hb hts hinX7 tyX7 tyX7_ok nmX7 hown hK hP hD hS 4 rfl rfl 76 (by decide) w_4 rfl rfl rfl rfl (Nat.le_of_ble_eq_true rfl) rfl dX7_most_151 (fun H locs hP hD hS => ?_)
    refine lv_iinc (v := 1) (lv' := [(6, .int 1), (4, .int 0), (8, .int 0), (7, .int 0), (5, .int 0), (3, .int (-1)), (0, .ref p0), (1, .int 4), (2, .int p2)]) hx hb dX7_most_154 hl (k := 3) rfl (by decide +kernel) (by decide) rfl (fun ls hl => ?_)
    refine lv_goto (tgt := 52) hx hb dX7_most_157 (by decide) ?_
    refine lv_iload hx hb dX7_most_52 (lv_at hl 0 rfl) ?_
    refine lv_iconst (v := 1) hx hb dX7_most_54 (by decide +kernel) ?_
    refine lv_aload_n hx hb dX7_most_55 rfl (lv_at hl 6 rfl) ?_
    refine k_get (D := (dC, dI)) (ci := 7) (v := .ref (p3 14)) (C := RX7) (T := TX7) (N := 92) hx hb hts hinX7 hown hK hP 4 rfl rfl 14 (by decide) w_1 rfl rfl dX7_most_56 ?_
    refine lv_aload_n hx hb dX7_most_59 rfl (lv_at hl 6 rfl) ?_
    refine k_get (D := (dC, dI)) (ci := 7) (v := .int 0) (C := RX7) (T := TX7) (N := 92) hx hb hts hinX7 hown hK hP 4 rfl rfl 13 (by decide) w_2 rfl rfl dX7_most_60 ?_
    refine k_iald (v := 0) hx hb hK hP 5 0 0 rfl rfl rfl (Nat.le_of_ble_eq_true rfl) (Nat.le_of_ble_eq_true rfl) rfl dX7_most_63 ?_
    refine lv_ishl hx hb dX7_most_64 ?_
    refine k_int (v := 1) (by decide +kernel) ?_
    refine lv_icmp_ge (tgt := 160) hx hb dX7_most_65 (by decide) (fun _ => ?_) (fun q9 => absurd q9 (by decide +kernel))
    refine lv_iinc (v := 1) (lv' := [(5, .int 1), (6, .int 1), (4, .int 0), (8, .int 0), (7, .int 0), (3, .int (-1)), (0, .ref p0), (1, .int 4), (2, .int p2)]) hx hb dX7_most_160 hl (k := 4) rfl (by decide +kernel) (by decide) rfl (fun ls hl => ?_)
    refine lv_goto (tgt := 43) hx hb dX7_most_163 (by decide) ?_
    refine lv_iload hx hb dX7_most_43 (lv_at hl 0 rfl) ?_
    refine lv_iload_n hx hb dX7_most_45 rfl (lv_at hl 7 rfl) ?_
    refine lv_icmp_gt (tgt := 166) hx hb dX7_most_46 (by decide) (fun q9 => absurd q9 (by decide +kernel)) (fun _ => ?_)
    refine lv_iconst (v := 0) hx hb dX7_most_49 (by decide +kernel) ?_
    refine lv_istore (lv' := [(6, .int 0), (5, .int 1), (4, .int 0), (8, .int 0), (7, .int 0), (3, .int (-1)), (0, .ref p0), (1, .int 4), (2, .int p2)]) hx hb dX7_most_50 hl (by decide) rfl (fun ls hl => ?_)
    refine lv_iload hx hb dX7_most_52 (lv_at hl 0 rfl) ?_
    refine lv_iconst (v := 1) hx hb dX7_most_54 (by decide +kernel) ?_
    refine lv_aload_n hx hb dX7_most_55 rfl (lv_at hl 6 rfl) ?_
    refine k_get (D := (dC, dI)) (ci := 7) (v := .ref (p3 14)) (C := RX7) (T := TX7) (N := 92) hx hb hts hinX7 hown hK hP 4 rfl rfl 14 (by decide) w_1 rfl rfl dX7_most_56 ?_
    refine lv_aload_n hx hb dX7_most_59 rfl (lv_at hl 6 rfl) ?_
    refine k_get (D := (dC, dI)) (ci := 7) (v := .int 0) (C := RX7) (T := TX7) (N := 92) hx hb hts hinX7 hown hK hP 4 rfl rfl 13 (by decide) w_2 rfl rfl dX7_most_60 ?_
    refine k_iald (v := 0) hx hb hK hP 5 0 0 rfl rfl rfl (Nat.le_of_ble_eq_true rfl) (Nat.le_of_ble_eq_true rfl) rfl dX7_most_63 ?_
    refine lv_ishl hx hb dX7_most_64 ?_
    refine k_int (v := 1) (by decide +kernel) ?_
    refine lv_icmp_ge (tgt := 160) hx hb dX7_most_65 (by decide) (fun q9 => absurd q9 (by decide +kernel)) (fun _ => ?_)
    refine lv_aload_n hx hb dX7_most_68 rfl (lv_at hl 6 rfl) ?_
    refine k_get (D := (dC, dI)) (ci := 7) (v := .ref (p3 72)) (C := RX7) (T := TX7) (N := 92) hx hb hts hinX7 hown hK hP 4 rfl rfl 72 (by decide) w_3 rfl rfl dX7_most_69 ?_
    refine lv_sipush (v := 1024) hx hb dX7_most_72 (by decide +kernel) ?_
    refine lv_iload hx hb dX7_most_75 (lv_at hl 1 rfl) ?_
    refine lv_imul hx hb dX7_most_77 ?_
    refine k_int (v := 1024) (by decide +kernel) ?_
    refine lv_iload hx hb dX7_most_78 (lv_at hl 0 rfl) ?_
    refine lv_iadd hx hb dX7_most_80 ?_
    refine k_int (v := 1024) (by decide +kernel) ?_
    refine k_iald (v := (-1)) hx hb hK hP 2 0 1024 rfl rfl rfl (Nat.le_of_ble_eq_true rfl) (Nat.le_of_ble_eq_true rfl) rfl dX7_most_81 ?_
    refine lv_istore (lv' := [(7, .int (-1)), (6, .int 0), (5, .int 1), (4, .int 0), (8, .int 0), (3, .int (-1)), (0, .ref p0), (1, .int 4), (2, .int p2)]) hx hb dX7_most_82 hl (by decide) rfl (fun ls hl => ?_)
    refine lv_iload hx hb dX7_most_84 (lv_at hl 0 rfl) ?_
    refine lv_iconst (v := (-1)) hx hb dX7_most_86 (by decide +kernel) ?_
    refine lv_icmp_ne (tgt := 93) hx hb dX7_most_87 (by decide) (fun q9 => absurd q9 (by decide +kernel)) (fun _ => ?_)
    refine lv_goto (tgt := 154) hx hb dX7_most_90 (by decide) ?_
    refine lv_iinc (v := 1) (lv' := [(6, .int 1), (7, .int (-1)), (5, .int 1), (4, .int 0), (8, .int 0), (3, .int (-1)), (0, .ref p0), (1, .int 4), (2, .int p2)]) hx hb dX7_most_154 hl (k := 1) rfl (by decide +kernel) (by decide) rfl (fun ls hl => ?_)
    refine lv_goto (tgt := 52) hx hb dX7_most_157 (by decide) ?_
    refine lv_iload hx hb dX7_most_52 (lv_at hl 0 rfl) ?_
    refine lv_iconst (v := 1) hx hb dX7_most_54 (by decide +kernel) ?_
    refine lv_aload_n hx hb dX7_most_55 rfl (lv_at hl 6 rfl) ?_
    refine k_get (D := (dC, dI)) (ci := 7) (v := .ref (p3 14)) (C := RX7) (T := TX7) (N := 92) hx hb hts hinX7 hown hK hP 4 rfl rfl 14 (by decide) w_1 rfl rfl dX7_most_56 ?_
    refine lv_aload_n hx hb dX7_most_59 rfl (lv_at hl 6 rfl) ?_
    refine k_get (D := (dC, dI)) (ci := 7) (v := .int 0) (C := RX7) (T := TX7) (N := 92) hx hb hts hinX7 hown hK hP 4 rfl rfl 13 (by decide) w_2 rfl rfl dX7_most_60 ?_
    refine k_iald (v := 0) hx hb hK hP 5 0 0 rfl rfl rfl (Nat.le_of_ble_eq_true rfl) (Nat.le_of_ble_eq_true rfl) rfl dX7_most_63 ?_
    refine lv_ishl hx hb dX7_most_64 ?_
    refine k_int (v := 1) (by decide +kernel) ?_
    refine lv_icmp_ge (tgt := 160) hx hb dX7_most_65 (by decide) (fun _ => ?_) (fun q9 => absurd q9 (by decide +kernel))
    refine lv_iinc (v := 2) (lv' := [(5, .int 2), (6, .int 1), (7, .int (-1)), (4, .int 0), (8, .int 0), (3, .int (-1)), (0, .ref p0), (1, .int 4), (2, .int p2)]) hx hb dX7_most_160 hl (k := 2) rfl (by decide +kernel) (by decide) rfl (fun ls hl => ?_)
    refine lv_goto (tgt := 43) hx hb dX7_most_163 (by decide) ?_
    refine lv_iload hx hb dX7_most_43 (lv_at hl 0 rfl) ?_
    refine lv_iload_n hx hb dX7_most_45 rfl (lv_at hl 7 rfl) ?_
    refine lv_icmp_gt (tgt := 166) hx hb dX7_most_46 (by decide) (fun q9 => absurd q9 (by decide +kernel)) (fun _ => ?_)
    refine lv_iconst (v := 0) hx hb dX7_most_49 (by decide +kernel) ?_
    refine lv_istore (lv' := [(6, .int 0), (5, .int 2), (7, .int (-1)), (4, .int 0), (8, .int 0), (3, .int (-1)), (0, .ref p0), (1, .int 4), (2, .int p2)]) hx hb dX7_most_50 hl (by decide) rfl (fun ls hl => ?_)
    refine lv_iload hx hb dX7_most_52 (lv_at hl 0 rfl) ?_
    refine lv_iconst (v := 1) hx hb dX7_most_54 (by decide +kernel) ?_
    refine lv_aload_n hx hb dX7_most_55 rfl (lv_at hl 6 rfl) ?_
    refine k_get (D := (dC, dI)) (ci := 7) (v := .ref (p3 14)) (C := RX7) (T := TX7) (N := 92) hx hb hts hinX7 hown hK hP 4 rfl rfl 14 (by decide) w_1 rfl rfl dX7_most_56 ?_
    refine lv_aload_n hx hb dX7_most_59 rfl (lv_at hl 6 rfl) ?_
    refine k_get (D := (dC, dI)) (ci := 7) (v := .int 0) (C := RX7) (T := TX7) (N := 92) hx hb hts hinX7 hown hK hP 4 rfl rfl 13 (by decide) w_2 rfl rfl dX7_most_60 ?_
    refine k_iald (v := 0) hx hb hK hP 5 0 0 rfl rfl rfl (Nat.le_of_ble_eq_true rfl) (Nat.le_of_ble_eq_true rfl) rfl dX7_most_63 ?_
    refine lv_ishl hx hb dX7_most_64 ?_
    refine k_int (v := 1) (by decide +kernel) ?_
    refine lv_icmp_ge (tgt := 160) hx hb dX7_most_65 (by decide) (fun q9 => absurd q9 (by decide +kernel)) (fun _ => ?_)
    refine lv_aload_n hx hb dX7_most_68 rfl (lv_at hl 6 rfl) ?_
    refine k_get (D := (dC, dI)) (ci := 7) (v := .ref (p3 72)) (C := RX7) (T := TX7) (N := 92) hx hb hts hinX7 hown hK hP 4 rfl rfl 72 (by decide) w_3 rfl rfl dX7_most_69 ?_
    refine lv_sipush (v := 1024) hx hb dX7_most_72 (by decide +kernel) ?_
    refine lv_iload hx hb dX7_most_75 (lv_at hl 1 rfl) ?_
    refine lv_imul hx hb dX7_most_77 ?_
    refine k_int (v := 2048) (by decide +kernel) ?_
    refine lv_iload hx hb dX7_most_78 (lv_at hl 0 rfl) ?_
    refine lv_iadd hx hb dX7_most_80 ?_
    refine k_int (v := 2048) (by decide +kernel) ?_
    refine k_iald (v := (-1)) hx hb hK hP 2 0 2048 rfl rfl rfl (Nat.le_of_ble_eq_true rfl) (Nat.le_of_ble_eq_true rfl) rfl dX7_most_81 ?_
    refine lv_istore (lv' := [(7, .int (-1)), (6, .int 0), (5, .int 2), (4, .int 0), (8, .int 0), (3, .int (-1)), (0, .ref p0), (1, .int 4), (2, .int p2)]) hx hb dX7_most_82 hl (by decide) rfl (fun ls hl => ?_)
    refine lv_iload hx hb dX7_most_84 (lv_at hl 0 rfl) ?_
    refine lv_iconst (v := (-1)) hx hb dX7_most_86 (by decide +kernel) ?_
    refine lv_icmp_ne (tgt := 93) hx hb dX7_most_87 (by decide) (fun q9 => absurd q9 (by decide +kernel)) (fun _ => ?_)
    refine lv_goto (tgt := 154) hx hb dX7_most_90 (by decide) ?_
    refine lv_iinc (v := 1) (lv' := [(6, .int 1), (7, .int (-1)), (5, .int 2), (4, .int 0), (8, .int 0), (3, .int (-1)), (0, .ref p0), (1, .int 4), (2, .int p2)]) hx hb dX7_most_154 hl (k := 1) rfl (by decide +kernel) (by decide) rfl (fun ls hl => ?_)
    refine lv_goto (tgt := 52) hx hb dX7_most_157 (by decide) ?_
    refine lv_iload hx hb dX7_most_52 (lv_at hl 0 rfl) ?_
    refine lv_iconst (v := 1) hx hb dX7_most_54 (by decide +kernel) ?_
    refine lv_aload_n hx hb dX7_most_55 rfl (lv_at hl 6 rfl) ?_
    refine k_get (D := (dC, dI)) (ci := 7) (v := .ref (p3 14)) (C := RX7) (T := TX7) (N := 92) hx hb hts hinX7 hown hK hP 4 rfl rfl 14 (by decide) w_1 rfl rfl dX7_most_56 ?_
    refine lv_aload_n hx hb dX7_most_59 rfl (lv_at hl 6 rfl) ?_
    refine k_get (D := (dC, dI)) (ci := 7) (v := .int 0) (C := RX7) (T := TX7) (N := 92) hx hb hts hinX7 hown hK hP 4 rfl rfl 13 (by decide) w_2 rfl rfl dX7_most_60 ?_
    refine k_iald (v := 0) hx hb hK hP 5 0 0 rfl rfl rfl (Nat.le_of_ble_eq_true rfl) (Nat.le_of_ble_eq_true rfl) rfl dX7_most_63 ?_
    refine lv_ishl hx hb dX7_most_64 ?_
    refine k_int (v := 1) (by decide +kernel) ?_
    refine lv_icmp_ge (tgt := 160) hx hb dX7_most_65 (by decide) (fun _ => ?_) (fun q9 => absurd q9 (by decide +kernel))
    refine lv_iinc (v := 3) (lv' := [(5, .int 3), (6, .int 1), (7, .int (-1)), (4, .int 0), (8, .int 0), (3, .int (-1)), (0, .ref p0), (1, .int 4), (2, .int p2)]) hx hb dX7_most_160 hl (k := 2) rfl (by decide +kernel) (by decide) rfl (fun ls hl => ?_)
    refine lv_goto (tgt := 43) hx hb dX7_most_163 (by decide) ?_
    refine lv_iload hx hb dX7_most_43 (lv_at hl 0 rfl) ?_
    refine lv_iload_n hx hb dX7_most_45 rfl (lv_at hl 7 rfl) ?_
    refine lv_icmp_gt (tgt := 166) hx hb dX7_most_46 (by decide) (fun q9 => absurd q9 (by decide +kernel)) (fun _ => ?_)
    refine lv_iconst (v := 0) hx hb dX7_most_49 (by decide +kernel) ?_
    refine lv_istore (lv' := [(6, .int 0), (5, .int 3), (7, .int (-1)), (4, .int 0), (8, .int 0), (3, .int (-1)), (0, .ref p0), (1, .int 4), (2, .int p2)]) hx hb dX7_most_50 hl (by decide) rfl (fun ls hl => ?_)
    refine lv_iload hx hb dX7_most_52 (lv_at hl 0 rfl) ?_
    refine lv_iconst (v := 1) hx hb dX7_most_54 (by decide +kernel) ?_
    refine lv_aload_n hx hb dX7_most_55 rfl (lv_at hl 6 rfl) ?_
    refine k_get (D := (dC, dI)) (ci := 7) (v := .ref (p3 14)) (C := RX7) (T := TX7) (N := 92) hx hb hts hinX7 hown hK hP 4 rfl rfl 14 (by decide) w_1 rfl rfl dX7_most_56 ?_
    refine lv_aload_n hx hb dX7_most_59 rfl (lv_at hl 6 rfl) ?_
    refine k_get (D := (dC, dI)) (ci := 7) (v := .int 0) (C := RX7) (T := TX7) (N := 92) hx hb hts hinX7 hown hK hP 4 rfl rfl 13 (by decide) w_2 rfl rfl dX7_most_60 ?_
    refine k_iald (v := 0) hx hb hK hP 5 0 0 rfl rfl rfl (Nat.le_of_ble_eq_true rfl) (Nat.le_of_ble_eq_true rfl) rfl dX7_most_63 ?_
    refine lv_ishl hx hb dX7_most_64 ?_
    refine k_int (v := 1) (by decide +kernel) ?_
    refine lv_icmp_ge (tgt := 160) hx hb dX7_most_65 (by decide) (fun q9 => absurd q9 (by decide +kernel)) (fun _ => ?_)
    refine lv_aload_n hx hb dX7_most_68 rfl (lv_at hl 6 rfl) ?_
    refine k_get (D := (dC, dI)) (ci := 7) (v := .ref (p3 72)) (C := RX7) (T := TX7) (N := 92) hx hb hts hinX7 hown hK hP 4 rfl rfl 72 (by decide) w_3 rfl rfl dX7_most_69 ?_
    refine lv_sipush (v := 1024) hx hb dX7_most_72 (by decide +kernel) ?_
    refine lv_iload hx hb dX7_most_75 (lv_at hl 1 rfl) ?_
    refine lv_imul hx hb dX7_most_77 ?_
    refine k_int (v := 3072) (by decide +kernel) ?_
    refine lv_iload hx hb dX7_most_78 (lv_at hl 0 rfl) ?_
    refine lv_iadd hx hb dX7_most_80 ?_
    refine k_int (v := 3072) (by decide +kernel) ?_
    refine k_iald (v := (-1)) hx hb hK hP 2 0 3072 rfl rfl rfl (Nat.le_of_ble_eq_true rfl) (Nat.le_of_ble_eq_true rfl) rfl dX7_most_81 ?_
    refine lv_istore (lv' := [(7, .int (-1)), (6, .int 0), (5, .int 3), (4, .int 0), (8, .int 0), (3, .int (-1)), (0, .ref p0), (1, .int 4), (2, .int p2)]) hx hb dX7_most_82 hl (by decide) rfl (fun ls hl => ?_)
    refine lv_iload hx hb dX7_most_84 (lv_at hl 0 rfl) ?_
    refine lv_iconst (v := (-1)) hx hb dX7_most_86 (by decide +kernel) ?_
    refine lv_icmp_ne (tgt := 93) hx hb dX7_most_87 (by decide) (fun q9 => absurd q9 (by decide +kernel)) (fun _ => ?_)
    refine lv_goto (tgt := 154) hx hb dX7_most_90 (by decide) ?_
    refine lv_iinc (v := 1) (lv' := [(6, .int 1), (7, .int (-1)), (5, .int 3), (4, .int 0), (8, .int 0), (3, .int (-1)), (0, .ref p0), (1, .int 4), (2, .int p2)]) hx hb dX7_most_154 hl (k := 1) rfl (by decide +kernel) (by decide) rfl (fun ls hl => ?_)
    refine lv_goto (tgt := 52) hx hb dX7_most_157 (by decide) ?_
    refine lv_iload hx hb dX7_most_52 (lv_at hl 0 rfl) ?_
    refine lv_iconst (v := 1) hx hb dX7_most_54 (by decide +kernel) ?_
    refine lv_aload_n hx hb dX7_most_55 rfl (lv_at hl 6 rfl) ?_
    refine k_get (D := (dC, dI)) (ci := 7) (v := .ref (p3 14)) (C := RX7) (T := TX7) (N := 92) hx hb hts hinX7 hown hK hP 4 rfl rfl 14 (by decide) w_1 rfl rfl dX7_most_56 ?_
    refine lv_aload_n hx hb dX7_most_59 rfl (lv_at hl 6 rfl) ?_
    refine k_get (D := (dC, dI)) (ci := 7) (v := .int 0) (C := RX7) (T := TX7) (N := 92) hx hb hts hinX7 hown hK hP 4 rfl rfl 13 (by decide) w_2 rfl rfl dX7_most_60 ?_
    refine k_iald (v := 0) hx hb hK hP 5 0 0 rfl rfl rfl (Nat.le_of_ble_eq_true rfl) (Nat.le_of_ble_eq_true rfl) rfl dX7_most_63 ?_
    refine lv_ishl hx hb dX7_most_64 ?_
    refine k_int (v := 1) (by decide +kernel) ?_
    refine lv_icmp_ge (tgt := 160) hx hb dX7_most_65 (by decide) (fun _ => ?_) (fun q9 => absurd q9 (by decide +kernel))
    refine lv_iinc (v := 4) (lv' := [(5, .int 4), (6, .int 1), (7, .int (-1)), (4, .int 0), (8, .int 0), (3, .int (-1)), (0, .ref p0), (1, .int 4), (2, .int p2)]) hx hb dX7_most_160 hl (k := 2) rfl (by decide +kernel) (by decide) rfl (fun ls hl => ?_)
    refine lv_goto (tgt := 43) hx hb dX7_most_163 (by decide) ?_
    refine lv_iload hx hb dX7_most_43 (lv_at hl 0 rfl) ?_
    refine lv_iload_n hx hb dX7_most_45 rfl (lv_at hl 7 rfl) ?_
    refine lv_icmp_gt (tgt := 166) hx hb dX7_most_46 (by decide) (fun q9 => absurd q9 (by decide +kernel)) (fun _ => ?_)
    refine lv_iconst (v := 0) hx hb dX7_most_49 (by decide +kernel) ?_
    refine lv_istore (lv' := [(6, .int 0), (5, .int 4), (7, .int (-1)), (4, .int 0), (8, .int 0), (3, .int (-1)), (0, .ref p0), (1, .int 4), (2, .int p2)]) hx hb dX7_most_50 hl (by decide) rfl (fun ls hl => ?_)
    refine lv_iload hx hb dX7_most_52 (lv_at hl 0 rfl) ?_
    refine lv_iconst (v := 1) hx hb dX7_most_54 (by decide +kernel) ?_
    refine lv_aload_n hx hb dX7_most_55 rfl (lv_at hl 6 rfl) ?_
    refine k_get (D := (dC, dI)) (ci := 7) (v := .ref (p3 14)) (C := RX7) (T := TX7) (N := 92) hx hb hts hinX7 hown hK hP 4 rfl rfl 14 (by decide) w_1 rfl rfl dX7_most_56 ?_
    refine lv_aload_n hx hb dX7_most_59 rfl (lv_at hl 6 rfl) ?_
    refine k_get (D := (dC, dI)) (ci := 7) (v := .int 0) (C := RX7) (T := TX7) (N := 92) hx hb hts hinX7 hown hK hP 4 rfl rfl 13 (by decide) w_2 rfl rfl dX7_most_60 ?_
    refine k_iald (v := 0) hx hb hK hP 5 0 0 rfl rfl rfl (Nat.le_of_ble_eq_true rfl) (Nat.le_of_ble_eq_true rfl) rfl dX7_most_63 ?_
    refine lv_ishl hx hb dX7_most_64 ?_
    refine k_int (v := 1) (by decide +kernel) ?_
    refine lv_icmp_ge (tgt := 160) hx hb dX7_most_65 (by decide) (fun q9 => absurd q9 (by decide +kernel)) (fun _ => ?_)
    refine lv_aload_n hx hb dX7_most_68 rfl (lv_at hl 6 rfl) ?_
    refine k_get (D := (dC, dI)) (ci := 7) (v := .ref (p3 72)) (C := RX7) (T := TX7) (N := 92) hx hb hts hinX7 hown hK hP 4 rfl rfl 72 (by decide) w_3 rfl rfl dX7_most_69 ?_
    refine lv_sipush (v := 1024) hx hb dX7_most_72 (by decide +kernel) ?_
    refine lv_iload hx hb dX7_most_75 (lv_at hl 1 rfl) ?_
    refine lv_imul hx hb dX7_most_77 ?_
    refine k_int (v := 4096) (by decide +kernel) ?_
    refine lv_iload hx hb dX7_most_78 (lv_at hl 0 rfl) ?_
    refine lv_iadd hx hb dX7_most_80 ?_
    refine k_int (v := 4096) (by decide +kernel) ?_
    refine k_iald (v := (-1)) hx hb hK hP 2 0 4096 rfl rfl rfl (Nat.le_of_ble_eq_true rfl) (Nat.le_of_ble_eq_true rfl) rfl dX7_most_81 ?_
    refine lv_istore (lv' := [(7, .int (-1)), (6, .int 0), (5, .int 4), (4, .int 0), (8, .int 0), (3, .int (-1)), (0, .ref p0), (1, .int 4), (2, .int p2)]) hx hb dX7_most_82 hl (by decide) rfl (fun ls hl => ?_)
    refine lv_iload hx hb dX7_most_84 (lv_at hl 0 rfl) ?_
    refine lv_iconst (v := (-1)) hx hb dX7_most_86 (by decide +kernel) ?_
    refine lv_icmp_ne (tgt := 93) hx hb dX7_most_87 (by decide) (fun q9 => absurd q9 (by decide +kernel)) (fun _ => ?_)
    refine lv_goto (tgt := 154) hx hb dX7_most_90 (by decide) ?_
    refine lv_iinc (v := 1) (lv' := [(6, .int 1), (7, .int (-1)), (5, .int 4), (4, .int 0), (8, .int 0), (3, .int (-1)), (0, .ref p0), (1, .int 4), (2, .int p2)]) hx hb dX7_most_154 hl (k := 1) rfl (by decide +kernel) (by decide) rfl (fun ls hl => ?_)
    refine lv_goto (tgt := 52) hx hb dX7_most_157 (by decide) ?_
    refine lv_iload hx hb dX7_most_52 (lv_at hl 0 rfl) ?_
    refine lv_iconst (v := 1) hx hb dX7_most_54 (by decide +kernel) ?_
    refine lv_aload_n hx hb dX7_most_55 rfl (lv_at hl 6 rfl) ?_
    refine k_get (D := (dC, dI)) (ci := 7) (v := .ref (p3 14)) (C := RX7) (T := TX7) (N := 92) hx hb hts hinX7 hown hK hP 4 rfl rfl 14 (by decide) w_1 rfl rfl dX7_most_56 ?_
    refine lv_aload_n hx hb dX7_most_59 rfl (lv_at hl 6 rfl) ?_
    refine k_get (D := (dC, dI)) (ci := 7) (v := .int 0) (C := RX7) (T := TX7) (N := 92) hx hb hts hinX7 hown hK hP 4 rfl rfl 13 (by decide) w_2 rfl rfl dX7_most_60 ?_
    refine k_iald (v := 0) hx hb hK hP 5 0 0 rfl rfl rfl (Nat.le_of_ble_eq_true rfl) (Nat.le_of_ble_eq_true rfl) rfl dX7_most_63 ?_
    refine lv_ishl hx hb dX7_most_64 ?_
    refine k_int (v := 1) (by decide +kernel) ?_
    refine lv_icmp_ge (tgt := 160) hx hb dX7_most_65 (by decide) (fun _ => ?_) (fun q9 => absurd q9 (by decide +kernel))
    refine lv_iinc (v := 5) (lv' := [(5, .int 5), (6, .int 1), (7, .int (-1)), (4, .int 0), (8, .int 0), (3, .int (-1)), (0, .ref p0), (1, .int 4), (2, .int p2)]) hx hb dX7_most_160 hl (k := 2) rfl (by decide +kernel) (by decide) rfl (fun ls hl => ?_)
    refine lv_goto (tgt := 43) hx hb dX7_most_163 (by decide) ?_
    refine lv_iload hx hb dX7_most_43 (lv_at hl 0 rfl) ?_
    refine lv_iload_n hx hb dX7_most_45 rfl (lv_at hl 7 rfl) ?_
    refine lv_icmp_gt (tgt := 166) hx hb dX7_most_46 (by decide) (fun _ => ?_) (fun q9 => absurd q9 (by decide +kernel))
    refine lv_iload_n hx hb dX7_most_166 rfl (lv_at hl 8 rfl) ?_
    refine lv_if_ne (tgt := 175) hx hb dX7_most_167 (by decide) (fun c_60 => ?_) (fun c_60 => ?_)
    · have c_60 : ¬ p2.toInt = 0 := k_eqF rfl (by decide +kernel) c_60
      refine lv_iload_n hx hb dX7_most_175 rfl (lv_at hl 8 rfl) ?_
      refine lv_iconst (v := 1) hx hb dX7_most_176 (by decide +kernel) ?_
      refine lv_icmp_ne (tgt := 187) hx hb dX7_most_177 (by decide) (fun c_61 => ?_) (fun c_61 => ?_)
      · have c_61 : ¬ p2.toInt = 1 := k_eqF rfl (by decide +kernel) c_61
        exfalso; omega
      · have c_61 : p2.toInt = 1 := k_eqT rfl (by decide +kernel) c_61
        refine lv_aload_n hx hb dX7_most_180 rfl (lv_at hl 6 rfl) ?_
        refine k_get (D := (dC, dI)) (ci := 7) (v := .int 0) (C := RX7) (T := TX7) (N := 92) hx hb hts hinX7 hown hK hP 4 rfl rfl 75 (by decide) w_0 rfl rfl dX7_most_181 ?_
        refine lv_goto (tgt := 203) hx hb dX7_most_184 (by decide) ?_
        exact k_ri B hP hD hS dX7_most_203 () [4, 0, 1, 2, 5, 3] rfl rfl rfl (Nat.le_of_ble_eq_true rfl) (Nat.le_of_ble_eq_true rfl) rfl
    · have c_60 : p2.toInt = 0 := k_eqT rfl (by decide +kernel) c_60
      exfalso; omega
  · obtain rfl : p1 = 5 := k_eqL (by decide +kernel) c_1
    refine lv_iload_n hx hb dX7_most_0 rfl (lv_at hl 1 rfl) ?_
    refine lv_iconst (v := 0) hx hb dX7_most_1 (by decide +kernel) ?_
    refine lv_bipush (v := 8) hx hb dX7_most_2 (by decide +kernel) ?_
    refine k_ci (wc := []) (wr := [(p0, .inr (7, oM p3 i7 j7)), ((p3 49), .inl (cI, 22, .inl (fun _ => 0))), ((p3 50), .inl (cI, 22, .inl (fun _ => 0))), ((p3 72), .inl (cI, 9216, .inl (fun _ => 0))), ((p3 14), .inl (cI, 2, .inl (fun _ => 0))), ((p3 18), .inl (cI, 2, .inl (fun _ => 0)))]) (fun hPc hDc hFc => va_runS (As := [.int 5, .int 0, .int 8]) (rest := []) ⟨hx, hb, hml, hown, hts⟩ (c_X7_is_v11 l dC dI cI cJ cZ cM H.size) (va_cwS 3 hts gX7_most_X7_is rfl rfl rfl (by decide +kernel) ⟨(Nat.le_of_ble_eq_true rfl), (Nat.le_of_ble_eq_true rfl)⟩) (k_pS hPc hDc hK hN hC hS hFc) rfl rfl hl.1 rfl (lv_room (Nat.le_of_ble_eq_true rfl)) dX7_most_4 ⟨(Nat.le_of_ble_eq_true rfl), (Nat.le_of_ble_eq_true rfl)⟩) hP hD hS hA [] [0, 1, 2, 3, 4, 5] rfl rfl rfl rfl (by decide) (fun _ => rfl) 0 0 rfl rfl (fun r_62 u_63 H locs hw hP hD hS => ?_)
    obtain rfl : r_62 = 1 := hw
    have hP : va_P (dC, dI) vwCl [(p0, .inr (7, oM p3 i7 j7)), ((p3 49), .inl (cI, 22, .inl (fun _ => 0))), ((p3 50), .inl (cI, 22, .inl (fun _ => 0))), ((p3 72), .inl (cI, 9216, .inl (fun _ => 0))), ((p3 14), .inl (cI, 2, .inl (fun _ => 0))), ((p3 18), .inl (cI, 2, .inl (fun _ => 0)))] H := hP
    have hD : va_D A [(p0, .inr (7, oM p3 i7 j7)), ((p3 49), .inl (cI, 22, .inl (fun _ => 0))), ((p3 50), .inl (cI, 22, .inl (fun _ => 0))), ((p3 72), .inl (cI, 9216, .inl (fun _ => 0))), ((p3 14), .inl (cI, 2, .inl (fun _ => 0))), ((p3 18), .inl (cI, 2, .inl (fun _ => 0)))] := hD
    refine lv_if_eq (tgt := 19) hx hb dX7_most_7 (by decide) (fun q9 => absurd q9 (by decide +kernel)) (fun _ => ?_)
    refine lv_iload_n hx hb dX7_most_10 rfl (lv_at hl 2 rfl) ?_
    refine lv_iconst (v := 0) hx hb dX7_most_11 (by decide +kernel) ?_
    refine lv_iconst (v := 3) hx hb dX7_most_12 (by decide +kernel) ?_
    refine k_ci (wc := []) (wr := [(p0, .inr (7, oM p3 i7 j7)), ((p3 49), .inl (cI, 22, .inl (fun _ => 0))), ((p3 50), .inl (cI, 22, .inl (fun _ => 0))), ((p3 72), .inl (cI, 9216, .inl (fun _ => 0))), ((p3 14), .inl (cI, 2, .inl (fun _ => 0))), ((p3 18), .inl (cI, 2, .inl (fun _ => 0)))]) (fun hPc hDc hFc => va_runS (As := [.int p2, .int 0, .int 3]) (rest := []) ⟨hx, hb, hml, hown, hts⟩ (c_X7_is_v21 l dC dI cI cJ cZ cM p2 (by omega) (by omega) H.size) (va_cwS 3 hts gX7_most_X7_is rfl rfl rfl (by decide +kernel) ⟨(Nat.le_of_ble_eq_true rfl), (Nat.le_of_ble_eq_true rfl)⟩) (k_pS hPc hDc hK hN hC hS hFc) rfl rfl hl.1 rfl (lv_room (Nat.le_of_ble_eq_true rfl)) dX7_most_13 ⟨(Nat.le_of_ble_eq_true rfl), (Nat.le_of_ble_eq_true rfl)⟩) hP hD hS hA [] [0, 1, 2, 3, 4, 5] rfl rfl rfl rfl (by decide) (fun _ => rfl) 0 0 rfl rfl (fun r_64 u_65 H locs hw hP hD hS => ?_)
    obtain rfl : r_64 = 1 := hw
    have hP : va_P (dC, dI) vwCl [(p0, .inr (7, oM p3 i7 j7)), ((p3 49), .inl (cI, 22, .inl (fun _ => 0))), ((p3 50), .inl (cI, 22, .inl (fun _ => 0))), ((p3 72), .inl (cI, 9216, .inl (fun _ => 0))), ((p3 14), .inl (cI, 2, .inl (fun _ => 0))), ((p3 18), .inl (cI, 2, .inl (fun _ => 0)))] H := hP
    have hD : va_D A [(p0, .inr (7, oM p3 i7 j7)), ((p3 49), .inl (cI, 22, .inl (fun _ => 0))), ((p3 50), .inl (cI, 22, .inl (fun _ => 0))), ((p3 72), .inl (cI, 9216, .inl (fun _ => 0))), ((p3 14), .inl (cI, 2, .inl (fun _ => 0))), ((p3 18), .inl (cI, 2, .inl (fun _ => 0)))] := hD
    refine lv_if_ne (tgt := 21) hx hb dX7_most_16 (by decide) (fun _ => ?_) (fun q9 => absurd q9 (by decide +kernel))
    refine lv_aload_n hx hb dX7_most_21 rfl (lv_at hl 0 rfl) ?_
    refine k_cv (wc := [(p0, .inr (7, oM p3 i7 j7)), ((p3 49), .inl (cI, 22, .inl (fun _ => 0))), ((p3 50), .inl (cI, 22, .inl (fun _ => 0))), ((p3 72), .inl (cI, 9216, .inl (fun _ => 0))), ((p3 14), .inl (cI, 2, .inl (fun _ => 0))), ((p3 18), .inl (cI, 2, .inl (fun _ => 0)))]) (wr := []) (fun hPc hDc hFc => va_runV (As := []) (rest := []) ⟨hx, hb, hml, hown, hts⟩ (c_X7_climbs_v0 l dC dI cI cJ cZ cM p0 p3 H.size) (cwV 0 hts gX7_most_X7_climbs rfl rfl rfl (by decide +kernel) ⟨(Nat.le_of_ble_eq_true rfl), (Nat.le_of_ble_eq_true rfl)⟩) (k_pV hPc hDc hK hN hC hS hFc hP (q0 := 0) (ci := 7) rfl rfl) rfl rfl hl.1 rfl (lv_room (Nat.le_of_ble_eq_true rfl)) dX7_most_22 ⟨(Nat.le_of_ble_eq_true rfl), (Nat.le_of_ble_eq_true rfl)⟩) hP hD hS hA [0, 1, 2, 3, 4, 5] [] rfl rfl rfl rfl (by decide) (fun _ => rfl) 0 0 rfl rfl (fun u_67 H locs hw hP hD hS => ?_)
    have hP : va_P (dC, dI) vwCl [(p0, .inr (7, oM p3 i7 j7)), ((p3 49), .inl (cI, 22, .inl (fun _ => 0))), ((p3 50), .inl (cI, 22, .inl (fun _ => 0))), ((p3 72), .inl (cI, 9216, .inl (upd (fun _ => (-1)) 0 0))), ((p3 14), .inl (cI, 2, .inl (fun _ => 0))), ((p3 18), .inl (cI, 2, .inl (fun _ => 0)))] H := hP
    have hD : va_D A [(p0, .inr (7, oM p3 i7 j7)), ((p3 49), .inl (cI, 22, .inl (fun _ => 0))), ((p3 50), .inl (cI, 22, .inl (fun _ => 0))), ((p3 72), .inl (cI, 9216, .inl (upd (fun _ => (-1)) 0 0))), ((p3 14), .inl (cI, 2, .inl (fun _ => 0))), ((p3 18), .inl (cI, 2, .inl (fun _ => 0)))] := hD
    refine lv_aload_n hx hb dX7_most_25 rfl (lv_at hl 0 rfl) ?_
    refine k_ci (wc := [(p0, .inr (7, oM p3 i7 j7)), ((p3 14), .inl (cI, 2, .inl (fun _ => 0)))]) (wr := [((p3 49), .inl (cI, 22, .inl (fun _ => 0))), ((p3 50), .inl (cI, 22, .inl (fun _ => 0))), ((p3 72), .inl (cI, 9216, .inl (upd (fun _ => (-1)) 0 0))), ((p3 18), .inl (cI, 2, .inl (fun _ => 0)))]) (fun hPc hDc hFc => va_runV (As := []) (rest := []) ⟨hx, hb, hml, hown, hts⟩ (c_X7_briefOnes_v2 l dC dI cI cJ cZ cM p0 p3 H.size) (cwV 0 hts gX7_most_X7_briefOnes rfl rfl rfl (by decide +kernel) ⟨(Nat.le_of_ble_eq_true rfl), (Nat.le_of_ble_eq_true rfl)⟩) (k_pV hPc hDc hK hN hC hS hFc hP (q0 := 0) (ci := 7) rfl rfl) rfl rfl hl.1 rfl (lv_room (Nat.le_of_ble_eq_true rfl)) dX7_most_26 ⟨(Nat.le_of_ble_eq_true rfl), (Nat.le_of_ble_eq_true rfl)⟩) hP hD hS hA [0, 4] [1, 2, 3, 5] rfl rfl rfl rfl (by decide) (fun _ => rfl) 0 0 rfl rfl (fun r_68 u_69 H locs hw hP hD hS => ?_)
    obtain rfl : r_68 = 0 := hw
    have hP : va_P (dC, dI) vwCl [((p3 49), .inl (cI, 22, .inl (fun _ => 0))), ((p3 50), .inl (cI, 22, .inl (fun _ => 0))), ((p3 72), .inl (cI, 9216, .inl (upd (fun _ => (-1)) 0 0))), ((p3 18), .inl (cI, 2, .inl (fun _ => 0))), (p0, .inr (7, oM p3 i7 j7)), ((p3 14), .inl (cI, 2, .inl (fun _ => 0)))] H := hP
    have hD : va_D A [((p3 49), .inl (cI, 22, .inl (fun _ => 0))), ((p3 50), .inl (cI, 22, .inl (fun _ => 0))), ((p3 72), .inl (cI, 9216, .inl (upd (fun _ => (-1)) 0 0))), ((p3 18), .inl (cI, 2, .inl (fun _ => 0))), (p0, .inr (7, oM p3 i7 j7)), ((p3 14), .inl (cI, 2, .inl (fun _ => 0)))] := hD
    refine lv_iconst (v := (-1)) hx hb dX7_most_29 (by decide +kernel) ?_
    refine lv_ixor hx hb dX7_most_30 ?_
    refine k_int (v := (-1)) (by decide +kernel) ?_
    refine lv_istore_n (lv' := [(3, .int (-1)), (0, .ref p0), (1, .int 5), (2, .int p2)]) hx hb dX7_most_31 rfl hl (by decide) rfl (fun ls hl => ?_)
    refine lv_aload_n hx hb dX7_most_32 rfl (lv_at hl 1 rfl) ?_
    refine lv_iconst (v := (-1)) hx hb dX7_most_33 (by decide +kernel) ?_
    refine k_put (D := (dC, dI)) (ci := 7) (v := .int (-1)) (C := RX7) (T := TX7) (N := 92) (ws' := [((p3 49), .inl (cI, 22, .inl (fun _ => 0))), ((p3 50), .inl (cI, 22, .inl (fun _ => 0))), ((p3 72), .inl (cI, 9216, .inl (upd (fun _ => (-1)) 0 0))), ((p3 18), .inl (cI, 2, .inl (fun _ => 0))), (p0, .inr (7, oM p3 (upd i7 75 (-1)) j7)), ((p3 14), .inl (cI, 2, .inl (fun _ => 0)))]) hx hb hts hinX7 tyX7 tyX7_ok nmX7 hown hK hP hD hS 4 rfl rfl 75 (by decide) w_0 rfl rfl rfl rfl (Nat.le_of_ble_eq_true rfl) rfl dX7_most_34 (fun H locs hP hD hS => ?_)
    refine lv_iconst (v := (-1)) hx hb dX7_most_37 (by decide +kernel) ?_
    refine lv_istore (lv' := [(4, .int (-1)), (3, .int (-1)), (0, .ref p0), (1, .int 5), (2, .int p2)]) hx hb dX7_most_38 hl (by decide) rfl (fun ls hl => ?_)
    refine lv_iconst (v := 0) hx hb dX7_most_40 (by decide +kernel) ?_
    refine lv_istore (lv' := [(5, .int 0), (4, .int (-1)), (3, .int (-1)), (0, .ref p0), (1, .int 5), (2, .int p2)]) hx hb dX7_most_41 hl (by decide) rfl (fun ls hl => ?_)
    refine lv_iload hx hb dX7_most_43 (lv_at hl 0 rfl) ?_
    refine lv_iload_n hx hb dX7_most_45 rfl (lv_at hl 4 rfl) ?_
    refine lv_icmp_gt (tgt := 166) hx hb dX7_most_46 (by decide) (fun q9 => absurd q9 (by decide +kernel)) (fun _ => ?_)
    refine lv_iconst (v := 0) hx hb dX7_most_49 (by decide +kernel) ?_
    refine lv_istore (lv' := [(6, .int 0), (5, .int 0), (4, .int (-1)), (3, .int (-1)), (0, .ref p0), (1, .int 5), (2, .int p2)]) hx hb dX7_most_50 hl (by decide) rfl (fun ls hl => ?_)
    refine lv_iload hx hb dX7_most_52 (lv_at hl 0 rfl) ?_
    refine lv_iconst (v := 1) hx hb dX7_most_54 (by decide +kernel) ?_
    refine lv_aload_n hx hb dX7_most_55 rfl (lv_at hl 4 rfl) ?_
    refine k_get (D := (dC, dI)) (ci := 7) (v := .ref (p3 14)) (C := RX7) (T := TX7) (N := 92) hx hb hts hinX7 hown hK hP 4 rfl rfl 14 (by decide) w_1 rfl rfl dX7_most_56 ?_
    refine lv_aload_n hx hb dX7_most_59 rfl (lv_at hl 4 rfl) ?_
    refine k_get (D := (dC, dI)) (ci := 7) (v := .int 0) (C := RX7) (T := TX7) (N := 92) hx hb hts hinX7 hown hK hP 4 rfl rfl 13 (by decide) w_2 rfl rfl dX7_most_60 ?_
    refine k_iald (v := 0) hx hb hK hP 5 0 0 rfl rfl rfl (Nat.le_of_ble_eq_true rfl) (Nat.le_of_ble_eq_true rfl) rfl dX7_most_63 ?_
    refine lv_ishl hx hb dX7_most_64 ?_
    refine k_int (v := 1) (by decide +kernel) ?_
    refine lv_icmp_ge (tgt := 160) hx hb dX7_most_65 (by decide) (fun q9 => absurd q9 (by decide +kernel)) (fun _ => ?_)
    refine lv_aload_n hx hb dX7_most_68 rfl (lv_at hl 4 rfl) ?_
    refine k_get (D := (dC, dI)) (ci := 7) (v := .ref (p3 72)) (C := RX7) (T := TX7) (N := 92) hx hb hts hinX7 hown hK hP 4 rfl rfl 72 (by decide) w_3 rfl rfl dX7_most_69 ?_
    refine lv_sipush (v := 1024) hx hb dX7_most_72 (by decide +kernel) ?_
    refine lv_iload hx hb dX7_most_75 (lv_at hl 1 rfl) ?_
    refine lv_imul hx hb dX7_most_77 ?_
    refine k_int (v := 0) (by decide +kernel) ?_
    refine lv_iload hx hb dX7_most_78 (lv_at hl 0 rfl) ?_
    refine lv_iadd hx hb dX7_most_80 ?_
    refine k_int (v := 0) (by decide +kernel) ?_
    refine k_iald (v := 0) hx hb hK hP 2 0 0 rfl rfl rfl (Nat.le_of_ble_eq_true rfl) (Nat.le_of_ble_eq_true rfl) rfl dX7_most_81 ?_
    refine lv_istore (lv' := [(7, .int 0), (6, .int 0), (5, .int 0), (4, .int (-1)), (3, .int (-1)), (0, .ref p0), (1, .int 5), (2, .int p2)]) hx hb dX7_most_82 hl (by decide) rfl (fun ls hl => ?_)
    refine lv_iload hx hb dX7_most_84 (lv_at hl 0 rfl) ?_
    refine lv_iconst (v := (-1)) hx hb dX7_most_86 (by decide +kernel) ?_
    refine lv_icmp_ne (tgt := 93) hx hb dX7_most_87 (by decide) (fun _ => ?_) (fun q9 => absurd q9 (by decide +kernel))
    refine lv_aload_n hx hb dX7_most_93 rfl (lv_at hl 5 rfl) ?_
    refine lv_iload hx hb dX7_most_94 (lv_at hl 1 rfl) ?_
    refine lv_iload_n hx hb dX7_most_96 rfl (lv_at hl 4 rfl) ?_
    refine lv_iand hx hb dX7_most_97 ?_
    refine k_int (v := 0) (by decide +kernel) ?_
    refine k_ci (wc := [(p0, .inr (7, oM p3 (upd i7 75 (-1)) j7)), ((p3 14), .inl (cI, 2, .inl (fun _ => 0)))]) (wr := [((p3 49), .inl (cI, 22, .inl (fun _ => 0))), ((p3 50), .inl (cI, 22, .inl (fun _ => 0))), ((p3 72), .inl (cI, 9216, .inl (upd (fun _ => (-1)) 0 0))), ((p3 18), .inl (cI, 2, .inl (fun _ => 0)))]) (fun hPc hDc hFc => va_runV (As := [.int 0]) (rest := []) ⟨hx, hb, hml, hown, hts⟩ (c_X7_worthOf_v1 l dC dI cI cJ cZ cM p0 p3 H.size) (cwV 1 hts gX7_most_X7_worthOf rfl rfl rfl (by decide +kernel) ⟨(Nat.le_of_ble_eq_true rfl), (Nat.le_of_ble_eq_true rfl)⟩) (k_pV hPc hDc hK hN hC hS hFc hP (q0 := 4) (ci := 7) rfl rfl) rfl rfl hl.1 rfl (lv_room (Nat.le_of_ble_eq_true rfl)) dX7_most_98 ⟨(Nat.le_of_ble_eq_true rfl), (Nat.le_of_ble_eq_true rfl)⟩) hP hD hS hA [4, 5] [0, 1, 2, 3] rfl rfl rfl rfl (by decide) (fun _ => rfl) 0 0 rfl rfl (fun r_70 u_71 H locs hw hP hD hS => ?_)
    obtain rfl : r_70 = 0 := hw
    have hP : va_P (dC, dI) vwCl [((p3 49), .inl (cI, 22, .inl (fun _ => 0))), ((p3 50), .inl (cI, 22, .inl (fun _ => 0))), ((p3 72), .inl (cI, 9216, .inl (upd (fun _ => (-1)) 0 0))), ((p3 18), .inl (cI, 2, .inl (fun _ => 0))), (p0, .inr (7, oM p3 (upd i7 75 (-1)) j7)), ((p3 14), .inl (cI, 2, .inl (fun _ => 0)))] H := hP
    have hD : va_D A [((p3 49), .inl (cI, 22, .inl (fun _ => 0))), ((p3 50), .inl (cI, 22, .inl (fun _ => 0))), ((p3 72), .inl (cI, 9216, .inl (upd (fun _ => (-1)) 0 0))), ((p3 18), .inl (cI, 2, .inl (fun _ => 0))), (p0, .inr (7, oM p3 (upd i7 75 (-1)) j7)), ((p3 14), .inl (cI, 2, .inl (fun _ => 0)))] := hD
    refine lv_istore (lv' := [(8, .int 0), (7, .int 0), (6, .int 0), (5, .int 0), (4, .int (-1)), (3, .int (-1)), (0, .ref p0), (1, .int 5), (2, .int p2)]) hx hb dX7_most_101 hl (by decide) rfl (fun ls hl => ?_)
    refine lv_iload hx hb dX7_most_103 (lv_at hl 0 rfl) ?_
    refine lv_iload hx hb dX7_most_105 (lv_at hl 4 rfl) ?_
    refine lv_icmp_lt (tgt := 154) hx hb dX7_most_107 (by decide) (fun q9 => absurd q9 (by decide +kernel)) (fun _ => ?_)
    refine lv_iload hx hb dX7_most_110 (lv_at hl 0 rfl) ?_
    refine lv_iload hx hb dX7_most_112 (lv_at hl 4 rfl) ?_
    refine lv_icmp_ne (tgt := 138) hx hb dX7_most_114 (by decide) (fun _ => ?_) (fun q9 => absurd q9 (by decide +kernel))
    refine lv_iload hx hb dX7_most_138 (lv_at hl 0 rfl) ?_
    refine lv_istore (lv' := [(4, .int 0), (8, .int 0), (7, .int 0), (6, .int 0), (5, .int 0), (3, .int (-1)), (0, .ref p0), (1, .int 5), (2, .int p2)]) hx hb dX7_most_140 hl (by decide) rfl (fun ls hl => ?_)
    refine lv_aload_n hx hb dX7_most_142 rfl (lv_at hl 6 rfl) ?_
    refine lv_iload hx hb dX7_most_143 (lv_at hl 4 rfl) ?_
    refine k_put (D := (dC, dI)) (ci := 7) (v := .int 0) (C := RX7) (T := TX7) (N := 92) (ws' := [((p3 49), .inl (cI, 22, .inl (fun _ => 0))), ((p3 50), .inl (cI, 22, .inl (fun _ => 0))), ((p3 72), .inl (cI, 9216, .inl (upd (fun _ => (-1)) 0 0))), ((p3 18), .inl (cI, 2, .inl (fun _ => 0))), (p0, .inr (7, oM p3 (upd i7 75 0) j7)), ((p3 14), .inl (cI, 2, .inl (fun _ => 0)))]) hx hb hts hinX7 tyX7 tyX7_ok nmX7 hown hK hP hD hS 4 rfl rfl 75 (by decide) w_0 rfl rfl rfl rfl (Nat.le_of_ble_eq_true rfl) rfl dX7_most_145 (fun H locs hP hD hS => ?_)
    refine lv_aload_n hx hb dX7_most_148 rfl (lv_at hl 6 rfl) ?_
    refine lv_iload hx hb dX7_most_149 (lv_at hl 3 rfl) ?_
    refine k_put (D := (dC, dI)) (ci := 7) (v := .int 0) (C := RX7) (T := TX7) (N := 92) (ws' := [((p3 49), .inl (cI, 22, .inl (fun _ => 0))), ((p3 50), .inl (cI, 22, .inl (fun _ => 0))), ((p3 72), .inl (cI, 9216, .inl (upd (fun _ => (-1)) 0 0))), ((p3 18), .inl (cI, 2, .inl (fun _ => 0))), (p0, .inr (7, oM p3 (upd (upd i7 75 0) 76 0) j7)), ((p3 14), .inl (cI, 2, .inl (fun _ => 0)))]) hx hb hts hinX7 tyX7 tyX7_ok nmX7 hown hK hP hD hS 4 rfl rfl 76 (by decide) w_4 rfl rfl rfl rfl (Nat.le_of_ble_eq_true rfl) rfl dX7_most_151 (fun H locs hP hD hS => ?_)
    refine lv_iinc (v := 1) (lv' := [(6, .int 1), (4, .int 0), (8, .int 0), (7, .int 0), (5, .int 0), (3, .int (-1)), (0, .ref p0), (1, .int 5), (2, .int p2)]) hx hb dX7_most_154 hl (k := 3) rfl (by decide +kernel) (by decide) rfl (fun ls hl => ?_)
    refine lv_goto (tgt := 52) hx hb dX7_most_157 (by decide) ?_
    refine lv_iload hx hb dX7_most_52 (lv_at hl 0 rfl) ?_
    refine lv_iconst (v := 1) hx hb dX7_most_54 (by decide +kernel) ?_
    refine lv_aload_n hx hb dX7_most_55 rfl (lv_at hl 6 rfl) ?_
    refine k_get (D := (dC, dI)) (ci := 7) (v := .ref (p3 14)) (C := RX7) (T := TX7) (N := 92) hx hb hts hinX7 hown hK hP 4 rfl rfl 14 (by decide) w_1 rfl rfl dX7_most_56 ?_
    refine lv_aload_n hx hb dX7_most_59 rfl (lv_at hl 6 rfl) ?_
    refine k_get (D := (dC, dI)) (ci := 7) (v := .int 0) (C := RX7) (T := TX7) (N := 92) hx hb hts hinX7 hown hK hP 4 rfl rfl 13 (by decide) w_2 rfl rfl dX7_most_60 ?_
    refine k_iald (v := 0) hx hb hK hP 5 0 0 rfl rfl rfl (Nat.le_of_ble_eq_true rfl) (Nat.le_of_ble_eq_true rfl) rfl dX7_most_63 ?_
    refine lv_ishl hx hb dX7_most_64 ?_
    refine k_int (v := 1) (by decide +kernel) ?_
    refine lv_icmp_ge (tgt := 160) hx hb dX7_most_65 (by decide) (fun _ => ?_) (fun q9 => absurd q9 (by decide +kernel))
    refine lv_iinc (v := 1) (lv' := [(5, .int 1), (6, .int 1), (4, .int 0), (8, .int 0), (7, .int 0), (3, .int (-1)), (0, .ref p0), (1, .int 5), (2, .int p2)]) hx hb dX7_most_160 hl (k := 4) rfl (by decide +kernel) (by decide) rfl (fun ls hl => ?_)
    refine lv_goto (tgt := 43) hx hb dX7_most_163 (by decide) ?_
    refine lv_iload hx hb dX7_most_43 (lv_at hl 0 rfl) ?_
    refine lv_iload_n hx hb dX7_most_45 rfl (lv_at hl 7 rfl) ?_
    refine lv_icmp_gt (tgt := 166) hx hb dX7_most_46 (by decide) (fun q9 => absurd q9 (by decide +kernel)) (fun _ => ?_)
    refine lv_iconst (v := 0) hx hb dX7_most_49 (by decide +kernel) ?_
    refine lv_istore (lv' := [(6, .int 0), (5, .int 1), (4, .int 0), (8, .int 0), (7, .int 0), (3, .int (-1)), (0, .ref p0), (1, .int 5), (2, .int p2)]) hx hb dX7_most_50 hl (by decide) rfl (fun ls hl => ?_)
    refine lv_iload hx hb dX7_most_52 (lv_at hl 0 rfl) ?_
    refine lv_iconst (v := 1) hx hb dX7_most_54 (by decide +kernel) ?_
    refine lv_aload_n hx hb dX7_most_55 rfl (lv_at hl 6 rfl) ?_
    refine k_get (D := (dC, dI)) (ci := 7) (v := .ref (p3 14)) (C := RX7) (T := TX7) (N := 92) hx hb hts hinX7 hown hK hP 4 rfl rfl 14 (by decide) w_1 rfl rfl dX7_most_56 ?_
    refine lv_aload_n hx hb dX7_most_59 rfl (lv_at hl 6 rfl) ?_
    refine k_get (D := (dC, dI)) (ci := 7) (v := .int 0) (C := RX7) (T := TX7) (N := 92) hx hb hts hinX7 hown hK hP 4 rfl rfl 13 (by decide) w_2 rfl rfl dX7_most_60 ?_
    refine k_iald (v := 0) hx hb hK hP 5 0 0 rfl rfl rfl (Nat.le_of_ble_eq_true rfl) (Nat.le_of_ble_eq_true rfl) rfl dX7_most_63 ?_
    refine lv_ishl hx hb dX7_most_64 ?_
    refine k_int (v := 1) (by decide +kernel) ?_
    refine lv_icmp_ge (tgt := 160) hx hb dX7_most_65 (by decide) (fun q9 => absurd q9 (by decide +kernel)) (fun _ => ?_)
    refine lv_aload_n hx hb dX7_most_68 rfl (lv_at hl 6 rfl) ?_
    refine k_get (D := (dC, dI)) (ci := 7) (v := .ref (p3 72)) (C := RX7) (T := TX7) (N := 92) hx hb hts hinX7 hown hK hP 4 rfl rfl 72 (by decide) w_3 rfl rfl dX7_most_69 ?_
    refine lv_sipush (v := 1024) hx hb dX7_most_72 (by decide +kernel) ?_
    refine lv_iload hx hb dX7_most_75 (lv_at hl 1 rfl) ?_
    refine lv_imul hx hb dX7_most_77 ?_
    refine k_int (v := 1024) (by decide +kernel) ?_
    refine lv_iload hx hb dX7_most_78 (lv_at hl 0 rfl) ?_
    refine lv_iadd hx hb dX7_most_80 ?_
    refine k_int (v := 1024) (by decide +kernel) ?_
    refine k_iald (v := (-1)) hx hb hK hP 2 0 1024 rfl rfl rfl (Nat.le_of_ble_eq_true rfl) (Nat.le_of_ble_eq_true rfl) rfl dX7_most_81 ?_
    refine lv_istore (lv' := [(7, .int (-1)), (6, .int 0), (5, .int 1), (4, .int 0), (8, .int 0), (3, .int (-1)), (0, .ref p0), (1, .int 5), (2, .int p2)]) hx hb dX7_most_82 hl (by decide) rfl (fun ls hl => ?_)
    refine lv_iload hx hb dX7_most_84 (lv_at hl 0 rfl) ?_
    refine lv_iconst (v := (-1)) hx hb dX7_most_86 (by decide +kernel) ?_
    refine lv_icmp_ne (tgt := 93) hx hb dX7_most_87 (by decide) (fun q9 => absurd q9 (by decide +kernel)) (fun _ => ?_)
    refine lv_goto (tgt := 154) hx hb dX7_most_90 (by decide) ?_
    refine lv_iinc (v := 1) (lv' := [(6, .int 1), (7, .int (-1)), (5, .int 1), (4, .int 0), (8, .int 0), (3, .int (-1)), (0, .ref p0), (1, .int 5), (2, .int p2)]) hx hb dX7_most_154 hl (k := 1) rfl (by decide +kernel) (by decide) rfl (fun ls hl => ?_)
    refine lv_goto (tgt := 52) hx hb dX7_most_157 (by decide) ?_
    refine lv_iload hx hb dX7_most_52 (lv_at hl 0 rfl) ?_
    refine lv_iconst (v := 1) hx hb dX7_most_54 (by decide +kernel) ?_
    refine lv_aload_n hx hb dX7_most_55 rfl (lv_at hl 6 rfl) ?_
    refine k_get (D := (dC, dI)) (ci := 7) (v := .ref (p3 14)) (C := RX7) (T := TX7) (N := 92) hx hb hts hinX7 hown hK hP 4 rfl rfl 14 (by decide) w_1 rfl rfl dX7_most_56 ?_
    refine lv_aload_n hx hb dX7_most_59 rfl (lv_at hl 6 rfl) ?_
    refine k_get (D := (dC, dI)) (ci := 7) (v := .int 0) (C := RX7) (T := TX7) (N := 92) hx hb hts hinX7 hown hK hP 4 rfl rfl 13 (by decide) w_2 rfl rfl dX7_most_60 ?_
    refine k_iald (v := 0) hx hb hK hP 5 0 0 rfl rfl rfl (Nat.le_of_ble_eq_true rfl) (Nat.le_of_ble_eq_true rfl) rfl dX7_most_63 ?_
    refine lv_ishl hx hb dX7_most_64 ?_
    refine k_int (v := 1) (by decide +kernel) ?_
    refine lv_icmp_ge (tgt := 160) hx hb dX7_most_65 (by decide) (fun _ => ?_) (fun q9 => absurd q9 (by decide +kernel))
    refine lv_iinc (v := 2) (lv' := [(5, .int 2), (6, .int 1), (7, .int (-1)), (4, .int 0), (8, .int 0), (3, .int (-1)), (0, .ref p0), (1, .int 5), (2, .int p2)]) hx hb dX7_most_160 hl (k := 2) rfl (by decide +kernel) (by decide) rfl (fun ls hl => ?_)
    refine lv_goto (tgt := 43) hx hb dX7_most_163 (by decide) ?_
    refine lv_iload hx hb dX7_most_43 (lv_at hl 0 rfl) ?_
    refine lv_iload_n hx hb dX7_most_45 rfl (lv_at hl 7 rfl) ?_
    refine lv_icmp_gt (tgt := 166) hx hb dX7_most_46 (by decide) (fun q9 => absurd q9 (by decide +kernel)) (fun _ => ?_)
    refine lv_iconst (v := 0) hx hb dX7_most_49 (by decide +kernel) ?_
    refine lv_istore (lv' := [(6, .int 0), (5, .int 2), (7, .int (-1)), (4, .int 0), (8, .int 0), (3, .int (-1)), (0, .ref p0), (1, .int 5), (2, .int p2)]) hx hb dX7_most_50 hl (by decide) rfl (fun ls hl => ?_)
    refine lv_iload hx hb dX7_most_52 (lv_at hl 0 rfl) ?_
    refine lv_iconst (v := 1) hx hb dX7_most_54 (by decide +kernel) ?_
    refine lv_aload_n hx hb dX7_most_55 rfl (lv_at hl 6 rfl) ?_
    refine k_get (D := (dC, dI)) (ci := 7) (v := .ref (p3 14)) (C := RX7) (T := TX7) (N := 92) hx hb hts hinX7 hown hK hP 4 rfl rfl 14 (by decide) w_1 rfl rfl dX7_most_56 ?_
    refine lv_aload_n hx hb dX7_most_59 rfl (lv_at hl 6 rfl) ?_
    refine k_get (D := (dC, dI)) (ci := 7) (v := .int 0) (C := RX7) (T := TX7) (N := 92) hx hb hts hinX7 hown hK hP 4 rfl rfl 13 (by decide) w_2 rfl rfl dX7_most_60 ?_
    refine k_iald (v := 0) hx hb hK hP 5 0 0 rfl rfl rfl (Nat.le_of_ble_eq_true rfl) (Nat.le_of_ble_eq_true rfl) rfl dX7_most_63 ?_
    refine lv_ishl hx hb dX7_most_64 ?_
    refine k_int (v := 1) (by decide +kernel) ?_
    refine lv_icmp_ge (tgt := 160) hx hb dX7_most_65 (by decide) (fun q9 => absurd q9 (by decide +kernel)) (fun _ => ?_)
    refine lv_aload_n hx hb dX7_most_68 rfl (lv_at hl 6 rfl) ?_
    refine k_get (D := (dC, dI)) (ci := 7) (v := .ref (p3 72)) (C := RX7) (T := TX7) (N := 92) hx hb hts hinX7 hown hK hP 4 rfl rfl 72 (by decide) w_3 rfl rfl dX7_most_69 ?_
    refine lv_sipush (v := 1024) hx hb dX7_most_72 (by decide +kernel) ?_
    refine lv_iload hx hb dX7_most_75 (lv_at hl 1 rfl) ?_
    refine lv_imul hx hb dX7_most_77 ?_
    refine k_int (v := 2048) (by decide +kernel) ?_
    refine lv_iload hx hb dX7_most_78 (lv_at hl 0 rfl) ?_
    refine lv_iadd hx hb dX7_most_80 ?_
    refine k_int (v := 2048) (by decide +kernel) ?_
    refine k_iald (v := (-1)) hx hb hK hP 2 0 2048 rfl rfl rfl (Nat.le_of_ble_eq_true rfl) (Nat.le_of_ble_eq_true rfl) rfl dX7_most_81 ?_
    refine lv_istore (lv' := [(7, .int (-1)), (6, .int 0), (5, .int 2), (4, .int 0), (8, .int 0), (3, .int (-1)), (0, .ref p0), (1, .int 5), (2, .int p2)]) hx hb dX7_most_82 hl (by decide) rfl (fun ls hl => ?_)
    refine lv_iload hx hb dX7_most_84 (lv_at hl 0 rfl) ?_
    refine lv_iconst (v := (-1)) hx hb dX7_most_86 (by decide +kernel) ?_
    refine lv_icmp_ne (tgt := 93) hx hb dX7_most_87 (by decide) (fun q9 => absurd q9 (by decide +kernel)) (fun _ => ?_)
    refine lv_goto (tgt := 154) hx hb dX7_most_90 (by decide) ?_
    refine lv_iinc (v := 1) (lv' := [(6, .int 1), (7, .int (-1)), (5, .int 2), (4, .int 0), (8, .int 0), (3, .int (-1)), (0, .ref p0), (1, .int 5), (2, .int p2)]) hx hb dX7_most_154 hl (k := 1) rfl (by decide +kernel) (by decide) rfl (fun ls hl => ?_)
    refine lv_goto (tgt := 52) hx hb dX7_most_157 (by decide) ?_
    refine lv_iload hx hb dX7_most_52 (lv_at hl 0 rfl) ?_
    refine lv_iconst (v := 1) hx hb dX7_most_54 (by decide +kernel) ?_
    refine lv_aload_n hx hb dX7_most_55 rfl (lv_at hl 6 rfl) ?_
    refine k_get (D := (dC, dI)) (ci := 7) (v := .ref (p3 14)) (C := RX7) (T := TX7) (N := 92) hx hb hts hinX7 hown hK hP 4 rfl rfl 14 (by decide) w_1 rfl rfl dX7_most_56 ?_
    refine lv_aload_n hx hb dX7_most_59 rfl (lv_at hl 6 rfl) ?_
    refine k_get (D := (dC, dI)) (ci := 7) (v := .int 0) (C := RX7) (T := TX7) (N := 92) hx hb hts hinX7 hown hK hP 4 rfl rfl 13 (by decide) w_2 rfl rfl dX7_most_60 ?_
    refine k_iald (v := 0) hx hb hK hP 5 0 0 rfl rfl rfl (Nat.le_of_ble_eq_true rfl) (Nat.le_of_ble_eq_true rfl) rfl dX7_most_63 ?_
    refine lv_ishl hx hb dX7_most_64 ?_
    refine k_int (v := 1) (by decide +kernel) ?_
    refine lv_icmp_ge (tgt := 160) hx hb dX7_most_65 (by decide) (fun _ => ?_) (fun q9 => absurd q9 (by decide +kernel))
    refine lv_iinc (v := 3) (lv' := [(5, .int 3), (6, .int 1), (7, .int (-1)), (4, .int 0), (8, .int 0), (3, .int (-1)), (0, .ref p0), (1, .int 5), (2, .int p2)]) hx hb dX7_most_160 hl (k := 2) rfl (by decide +kernel) (by decide) rfl (fun ls hl => ?_)
    refine lv_goto (tgt := 43) hx hb dX7_most_163 (by decide) ?_
    refine lv_iload hx hb dX7_most_43 (lv_at hl 0 rfl) ?_
    refine lv_iload_n hx hb dX7_most_45 rfl (lv_at hl 7 rfl) ?_
    refine lv_icmp_gt (tgt := 166) hx hb dX7_most_46 (by decide) (fun q9 => absurd q9 (by decide +kernel)) (fun _ => ?_)
    refine lv_iconst (v := 0) hx hb dX7_most_49 (by decide +kernel) ?_
    refine lv_istore (lv' := [(6, .int 0), (5, .int 3), (7, .int (-1)), (4, .int 0), (8, .int 0), (3, .int (-1)), (0, .ref p0), (1, .int 5), (2, .int p2)]) hx hb dX7_most_50 hl (by decide) rfl (fun ls hl => ?_)
    refine lv_iload hx hb dX7_most_52 (lv_at hl 0 rfl) ?_
    refine lv_iconst (v := 1) hx hb dX7_most_54 (by decide +kernel) ?_
    refine lv_aload_n hx hb dX7_most_55 rfl (lv_at hl 6 rfl) ?_
    refine k_get (D := (dC, dI)) (ci := 7) (v := .ref (p3 14)) (C := RX7) (T := TX7) (N := 92) hx hb hts hinX7 hown hK hP 4 rfl rfl 14 (by decide) w_1 rfl rfl dX7_most_56 ?_
    refine lv_aload_n hx hb dX7_most_59 rfl (lv_at hl 6 rfl) ?_
    refine k_get (D := (dC, dI)) (ci := 7) (v := .int 0) (C := RX7) (T := TX7) (N := 92) hx hb hts hinX7 hown hK hP 4 rfl rfl 13 (by decide) w_2 rfl rfl dX7_most_60 ?_
    refine k_iald (v := 0) hx hb hK hP 5 0 0 rfl rfl rfl (Nat.le_of_ble_eq_true rfl) (Nat.le_of_ble_eq_true rfl) rfl dX7_most_63 ?_
    refine lv_ishl hx hb dX7_most_64 ?_
    refine k_int (v := 1) (by decide +kernel) ?_
    refine lv_icmp_ge (tgt := 160) hx hb dX7_most_65 (by decide) (fun q9 => absurd q9 (by decide +kernel)) (fun _ => ?_)
    refine lv_aload_n hx hb dX7_most_68 rfl (lv_at hl 6 rfl) ?_
    refine k_get (D := (dC, dI)) (ci := 7) (v := .ref (p3 72)) (C := RX7) (T := TX7) (N := 92) hx hb hts hinX7 hown hK hP 4 rfl rfl 72 (by decide) w_3 rfl rfl dX7_most_69 ?_
    refine lv_sipush (v := 1024) hx hb dX7_most_72 (by decide +kernel) ?_
    refine lv_iload hx hb dX7_most_75 (lv_at hl 1 rfl) ?_
    refine lv_imul hx hb dX7_most_77 ?_
    refine k_int (v := 3072) (by decide +kernel) ?_
    refine lv_iload hx hb dX7_most_78 (lv_at hl 0 rfl) ?_
    refine lv_iadd hx hb dX7_most_80 ?_
    refine k_int (v := 3072) (by decide +kernel) ?_
    refine k_iald (v := (-1)) hx hb hK hP 2 0 3072 rfl rfl rfl (Nat.le_of_ble_eq_true rfl) (Nat.le_of_ble_eq_true rfl) rfl dX7_most_81 ?_
    refine lv_istore (lv' := [(7, .int (-1)), (6, .int 0), (5, .int 3), (4, .int 0), (8, .int 0), (3, .int (-1)), (0, .ref p0), (1, .int 5), (2, .int p2)]) hx hb dX7_most_82 hl (by decide) rfl (fun ls hl => ?_)
    refine lv_iload hx hb dX7_most_84 (lv_at hl 0 rfl) ?_
    refine lv_iconst (v := (-1)) hx hb dX7_most_86 (by decide +kernel) ?_
    refine lv_icmp_ne (tgt := 93) hx hb dX7_most_87 (by decide) (fun q9 => absurd q9 (by decide +kernel)) (fun _ => ?_)
    refine lv_goto (tgt := 154) hx hb dX7_most_90 (by decide) ?_
    refine lv_iinc (v := 1) (lv' := [(6, .int 1), (7, .int (-1)), (5, .int 3), (4, .int 0), (8, .int 0), (3, .int (-1)), (0, .ref p0), (1, .int 5), (2, .int p2)]) hx hb dX7_most_154 hl (k := 1) rfl (by decide +kernel) (by decide) rfl (fun ls hl => ?_)
    refine lv_goto (tgt := 52) hx hb dX7_most_157 (by decide) ?_
    refine lv_iload hx hb dX7_most_52 (lv_at hl 0 rfl) ?_
    refine lv_iconst (v := 1) hx hb dX7_most_54 (by decide +kernel) ?_
    refine lv_aload_n hx hb dX7_most_55 rfl (lv_at hl 6 rfl) ?_
    refine k_get (D := (dC, dI)) (ci := 7) (v := .ref (p3 14)) (C := RX7) (T := TX7) (N := 92) hx hb hts hinX7 hown hK hP 4 rfl rfl 14 (by decide) w_1 rfl rfl dX7_most_56 ?_
    refine lv_aload_n hx hb dX7_most_59 rfl (lv_at hl 6 rfl) ?_
    refine k_get (D := (dC, dI)) (ci := 7) (v := .int 0) (C := RX7) (T := TX7) (N := 92) hx hb hts hinX7 hown hK hP 4 rfl rfl 13 (by decide) w_2 rfl rfl dX7_most_60 ?_
    refine k_iald (v := 0) hx hb hK hP 5 0 0 rfl rfl rfl (Nat.le_of_ble_eq_true rfl) (Nat.le_of_ble_eq_true rfl) rfl dX7_most_63 ?_
    refine lv_ishl hx hb dX7_most_64 ?_
    refine k_int (v := 1) (by decide +kernel) ?_
    refine lv_icmp_ge (tgt := 160) hx hb dX7_most_65 (by decide) (fun _ => ?_) (fun q9 => absurd q9 (by decide +kernel))
    refine lv_iinc (v := 4) (lv' := [(5, .int 4), (6, .int 1), (7, .int (-1)), (4, .int 0), (8, .int 0), (3, .int (-1)), (0, .ref p0), (1, .int 5), (2, .int p2)]) hx hb dX7_most_160 hl (k := 2) rfl (by decide +kernel) (by decide) rfl (fun ls hl => ?_)
    refine lv_goto (tgt := 43) hx hb dX7_most_163 (by decide) ?_
    refine lv_iload hx hb dX7_most_43 (lv_at hl 0 rfl) ?_
    refine lv_iload_n hx hb dX7_most_45 rfl (lv_at hl 7 rfl) ?_
    refine lv_icmp_gt (tgt := 166) hx hb dX7_most_46 (by decide) (fun q9 => absurd q9 (by decide +kernel)) (fun _ => ?_)
    refine lv_iconst (v := 0) hx hb dX7_most_49 (by decide +kernel) ?_
    refine lv_istore (lv' := [(6, .int 0), (5, .int 4), (7, .int (-1)), (4, .int 0), (8, .int 0), (3, .int (-1)), (0, .ref p0), (1, .int 5), (2, .int p2)]) hx hb dX7_most_50 hl (by decide) rfl (fun ls hl => ?_)
    refine lv_iload hx hb dX7_most_52 (lv_at hl 0 rfl) ?_
    refine lv_iconst (v := 1) hx hb dX7_most_54 (by decide +kernel) ?_
    refine lv_aload_n hx hb dX7_most_55 rfl (lv_at hl 6 rfl) ?_
    refine k_get (D := (dC, dI)) (ci := 7) (v := .ref (p3 14)) (C := RX7) (T := TX7) (N := 92) hx hb hts hinX7 hown hK hP 4 rfl rfl 14 (by decide) w_1 rfl rfl dX7_most_56 ?_
    refine lv_aload_n hx hb dX7_most_59 rfl (lv_at hl 6 rfl) ?_
    refine k_get (D := (dC, dI)) (ci := 7) (v := .int 0) (C := RX7) (T := TX7) (N := 92) hx hb hts hinX7 hown hK hP 4 rfl rfl 13 (by decide) w_2 rfl rfl dX7_most_60 ?_
    refine k_iald (v := 0) hx hb hK hP 5 0 0 rfl rfl rfl (Nat.le_of_ble_eq_true rfl) (Nat.le_of_ble_eq_true rfl) rfl dX7_most_63 ?_
    refine lv_ishl hx hb dX7_most_64 ?_
    refine k_int (v := 1) (by decide +kernel) ?_
    refine lv_icmp_ge (tgt := 160) hx hb dX7_most_65 (by decide) (fun q9 => absurd q9 (by decide +kernel)) (fun _ => ?_)
    refine lv_aload_n hx hb dX7_most_68 rfl (lv_at hl 6 rfl) ?_
    refine k_get (D := (dC, dI)) (ci := 7) (v := .ref (p3 72)) (C := RX7) (T := TX7) (N := 92) hx hb hts hinX7 hown hK hP 4 rfl rfl 72 (by decide) w_3 rfl rfl dX7_most_69 ?_
    refine lv_sipush (v := 1024) hx hb dX7_most_72 (by decide +kernel) ?_
    refine lv_iload hx hb dX7_most_75 (lv_at hl 1 rfl) ?_
    refine lv_imul hx hb dX7_most_77 ?_
    refine k_int (v := 4096) (by decide +kernel) ?_
    refine lv_iload hx hb dX7_most_78 (lv_at hl 0 rfl) ?_
    refine lv_iadd hx hb dX7_most_80 ?_
    refine k_int (v := 4096) (by decide +kernel) ?_
    refine k_iald (v := (-1)) hx hb hK hP 2 0 4096 rfl rfl rfl (Nat.le_of_ble_eq_true rfl) (Nat.le_of_ble_eq_true rfl) rfl dX7_most_81 ?_
    refine lv_istore (lv' := [(7, .int (-1)), (6, .int 0), (5, .int 4), (4, .int 0), (8, .int 0), (3, .int (-1)), (0, .ref p0), (1, .int 5), (2, .int p2)]) hx hb dX7_most_82 hl (by decide) rfl (fun ls hl => ?_)
    refine lv_iload hx hb dX7_most_84 (lv_at hl 0 rfl) ?_
    refine lv_iconst (v := (-1)) hx hb dX7_most_86 (by decide +kernel) ?_
    refine lv_icmp_ne (tgt := 93) hx hb dX7_most_87 (by decide) (fun q9 => absurd q9 (by decide +kernel)) (fun _ => ?_)
    refine lv_goto (tgt := 154) hx hb dX7_most_90 (by decide) ?_
    refine lv_iinc (v := 1) (lv' := [(6, .int 1), (7, .int (-1)), (5, .int 4), (4, .int 0), (8, .int 0), (3, .int (-1)), (0, .ref p0), (1, .int 5), (2, .int p2)]) hx hb dX7_most_154 hl (k := 1) rfl (by decide +kernel) (by decide) rfl (fun ls hl => ?_)
    refine lv_goto (tgt := 52) hx hb dX7_most_157 (by decide) ?_
    refine lv_iload hx hb dX7_most_52 (lv_at hl 0 rfl) ?_
    refine lv_iconst (v := 1) hx hb dX7_most_54 (by decide +kernel) ?_
    refine lv_aload_n hx hb dX7_most_55 rfl (lv_at hl 6 rfl) ?_
    refine k_get (D := (dC, dI)) (ci := 7) (v := .ref (p3 14)) (C := RX7) (T := TX7) (N := 92) hx hb hts hinX7 hown hK hP 4 rfl rfl 14 (by decide) w_1 rfl rfl dX7_most_56 ?_
    refine lv_aload_n hx hb dX7_most_59 rfl (lv_at hl 6 rfl) ?_
    refine k_get (D := (dC, dI)) (ci := 7) (v := .int 0) (C := RX7) (T := TX7) (N := 92) hx hb hts hinX7 hown hK hP 4 rfl rfl 13 (by decide) w_2 rfl rfl dX7_most_60 ?_
    refine k_iald (v := 0) hx hb hK hP 5 0 0 rfl rfl rfl (Nat.le_of_ble_eq_true rfl) (Nat.le_of_ble_eq_true rfl) rfl dX7_most_63 ?_
    refine lv_ishl hx hb dX7_most_64 ?_
    refine k_int (v := 1) (by decide +kernel) ?_
    refine lv_icmp_ge (tgt := 160) hx hb dX7_most_65 (by decide) (fun _ => ?_) (fun q9 => absurd q9 (by decide +kernel))
    refine lv_iinc (v := 5) (lv' := [(5, .int 5), (6, .int 1), (7, .int (-1)), (4, .int 0), (8, .int 0), (3, .int (-1)), (0, .ref p0), (1, .int 5), (2, .int p2)]) hx hb dX7_most_160 hl (k := 2) rfl (by decide +kernel) (by decide) rfl (fun ls hl => ?_)
    refine lv_goto (tgt := 43) hx hb dX7_most_163 (by decide) ?_
    refine lv_iload hx hb dX7_most_43 (lv_at hl 0 rfl) ?_
    refine lv_iload_n hx hb dX7_most_45 rfl (lv_at hl 7 rfl) ?_
    refine lv_icmp_gt (tgt := 166) hx hb dX7_most_46 (by decide) (fun q9 => absurd q9 (by decide +kernel)) (fun _ => ?_)
    refine lv_iconst (v := 0) hx hb dX7_most_49 (by decide +kernel) ?_
    refine lv_istore (lv' := [(6, .int 0), (5, .int 5), (7, .int (-1)), (4, .int 0), (8, .int 0), (3, .int (-1)), (0, .ref p0), (1, .int 5), (2, .int p2)]) hx hb dX7_most_50 hl (by decide) rfl (fun ls hl => ?_)
    refine lv_iload hx hb dX7_most_52 (lv_at hl 0 rfl) ?_
    refine lv_iconst (v := 1) hx hb dX7_most_54 (by decide +kernel) ?_
    refine lv_aload_n hx hb dX7_most_55 rfl (lv_at hl 6 rfl) ?_
    refine k_get (D := (dC, dI)) (ci := 7) (v := .ref (p3 14)) (C := RX7) (T := TX7) (N := 92) hx hb hts hinX7 hown hK hP 4 rfl rfl 14 (by decide) w_1 rfl rfl dX7_most_56 ?_
    refine lv_aload_n hx hb dX7_most_59 rfl (lv_at hl 6 rfl) ?_
    refine k_get (D := (dC, dI)) (ci := 7) (v := .int 0) (C := RX7) (T := TX7) (N := 92) hx hb hts hinX7 hown hK hP 4 rfl rfl 13 (by decide) w_2 rfl rfl dX7_most_60 ?_
    refine k_iald (v := 0) hx hb hK hP 5 0 0 rfl rfl rfl (Nat.le_of_ble_eq_true rfl) (Nat.le_of_ble_eq_true rfl) rfl dX7_most_63 ?_
    refine lv_ishl hx hb dX7_most_64 ?_
    refine k_int (v := 1) (by decide +kernel) ?_
    refine lv_icmp_ge (tgt := 160) hx hb dX7_most_65 (by decide) (fun q9 => absurd q9 (by decide +kernel)) (fun _ => ?_)
    refine lv_aload_n hx hb dX7_most_68 rfl (lv_at hl 6 rfl) ?_
    refine k_get (D := (dC, dI)) (ci := 7) (v := .ref (p3 72)) (C := RX7) (T := TX7) (N := 92) hx hb hts hinX7 hown hK hP 4 rfl rfl 72 (by decide) w_3 rfl rfl dX7_most_69 ?_
    refine lv_sipush (v := 1024) hx hb dX7_most_72 (by decide +kernel) ?_
    refine lv_iload hx hb dX7_most_75 (lv_at hl 1 rfl) ?_
    refine lv_imul hx hb dX7_most_77 ?_
    refine k_int (v := 5120) (by decide +kernel) ?_
    refine lv_iload hx hb dX7_most_78 (lv_at hl 0 rfl) ?_
    refine lv_iadd hx hb dX7_most_80 ?_
    refine k_int (v := 5120) (by decide +kernel) ?_
    refine k_iald (v := (-1)) hx hb hK hP 2 0 5120 rfl rfl rfl (Nat.le_of_ble_eq_true rfl) (Nat.le_of_ble_eq_true rfl) rfl dX7_most_81 ?_
    refine lv_istore (lv' := [(7, .int (-1)), (6, .int 0), (5, .int 5), (4, .int 0), (8, .int 0), (3, .int (-1)), (0, .ref p0), (1, .int 5), (2, .int p2)]) hx hb dX7_most_82 hl (by decide) rfl (fun ls hl => ?_)
    refine lv_iload hx hb dX7_most_84 (lv_at hl 0 rfl) ?_
    refine lv_iconst (v := (-1)) hx hb dX7_most_86 (by decide +kernel) ?_
    refine lv_icmp_ne (tgt := 93) hx hb dX7_most_87 (by decide) (fun q9 => absurd q9 (by decide +kernel)) (fun _ => ?_)
    refine lv_goto (tgt := 154) hx hb dX7_most_90 (by decide) ?_
    refine lv_iinc (v := 1) (lv' := [(6, .int 1), (7, .int (-1)), (5, .int 5), (4, .int 0), (8, .int 0), (3, .int (-1)), (0, .ref p0), (1, .int 5), (2, .int p2)]) hx hb dX7_most_154 hl (k := 1) rfl (by decide +kernel) (by decide) rfl (fun ls hl => ?_)
    refine lv_goto (tgt := 52) hx hb dX7_most_157 (by decide) ?_
    refine lv_iload hx hb dX7_most_52 (lv_at hl 0 rfl) ?_
    refine lv_iconst (v := 1) hx hb dX7_most_54 (by decide +kernel) ?_
    refine lv_aload_n hx hb dX7_most_55 rfl (lv_at hl 6 rfl) ?_
    refine k_get (D := (dC, dI)) (ci := 7) (v := .ref (p3 14)) (C := RX7) (T := TX7) (N := 92) hx hb hts hinX7 hown hK hP 4 rfl rfl 14 (by decide) w_1 rfl rfl dX7_most_56 ?_
    refine lv_aload_n hx hb dX7_most_59 rfl (lv_at hl 6 rfl) ?_
    refine k_get (D := (dC, dI)) (ci := 7) (v := .int 0) (C := RX7) (T := TX7) (N := 92) hx hb hts hinX7 hown hK hP 4 rfl rfl 13 (by decide) w_2 rfl rfl dX7_most_60 ?_
    refine k_iald (v := 0) hx hb hK hP 5 0 0 rfl rfl rfl (Nat.le_of_ble_eq_true rfl) (Nat.le_of_ble_eq_true rfl) rfl dX7_most_63 ?_
    refine lv_ishl hx hb dX7_most_64 ?_
    refine k_int (v := 1) (by decide +kernel) ?_
    refine lv_icmp_ge (tgt := 160) hx hb dX7_most_65 (by decide) (fun _ => ?_) (fun q9 => absurd q9 (by decide +kernel))
    refine lv_iinc (v := 6) (lv' := [(5, .int 6), (6, .int 1), (7, .int (-1)), (4, .int 0), (8, .int 0), (3, .int (-1)), (0, .ref p0), (1, .int 5), (2, .int p2)]) hx hb dX7_most_160 hl (k := 2) rfl (by decide +kernel) (by decide) rfl (fun ls hl => ?_)
    refine lv_goto (tgt := 43) hx hb dX7_most_163 (by decide) ?_
    refine lv_iload hx hb dX7_most_43 (lv_at hl 0 rfl) ?_
    refine lv_iload_n hx hb dX7_most_45 rfl (lv_at hl 7 rfl) ?_
    refine lv_icmp_gt (tgt := 166) hx hb dX7_most_46 (by decide) (fun _ => ?_) (fun q9 => absurd q9 (by decide +kernel))
    refine lv_iload_n hx hb dX7_most_166 rfl (lv_at hl 8 rfl) ?_
    refine lv_if_ne (tgt := 175) hx hb dX7_most_167 (by decide) (fun c_72 => ?_) (fun c_72 => ?_)
    · have c_72 : ¬ p2.toInt = 0 := k_eqF rfl (by decide +kernel) c_72
      refine lv_iload_n hx hb dX7_most_175 rfl (lv_at hl 8 rfl) ?_
      refine lv_iconst (v := 1) hx hb dX7_most_176 (by decide +kernel) ?_
      refine lv_icmp_ne (tgt := 187) hx hb dX7_most_177 (by decide) (fun c_73 => ?_) (fun c_73 => ?_)
      · have c_73 : ¬ p2.toInt = 1 := k_eqF rfl (by decide +kernel) c_73
        exfalso; omega
      · have c_73 : p2.toInt = 1 := k_eqT rfl (by decide +kernel) c_73
        refine lv_aload_n hx hb dX7_most_180 rfl (lv_at hl 6 rfl) ?_
        refine k_get (D := (dC, dI)) (ci := 7) (v := .int 0) (C := RX7) (T := TX7) (N := 92) hx hb hts hinX7 hown hK hP 4 rfl rfl 75 (by decide) w_0 rfl rfl dX7_most_181 ?_
        refine lv_goto (tgt := 203) hx hb dX7_most_184 (by decide) ?_
        exact k_ri B hP hD hS dX7_most_203 () [4, 0, 1, 2, 5, 3] rfl rfl rfl (Nat.le_of_ble_eq_true rfl) (Nat.le_of_ble_eq_true rfl) rfl
    · have c_72 : p2.toInt = 0 := k_eqT rfl (by decide +kernel) c_72
      exfalso; omega
  · obtain rfl : p1 = 6 := k_eqL (by decide +kernel) c_1
    refine lv_iload_n hx hb dX7_most_0 rfl (lv_at hl 1 rfl) ?_
    refine lv_iconst (v := 0) hx hb dX7_most_1 (by decide +kernel) ?_
    refine lv_bipush (v := 8) hx hb dX7_most_2 (by decide +kernel) ?_
    refine k_ci (wc := []) (wr := [(p0, .inr (7, oM p3 i7 j7)), ((p3 49), .inl (cI, 22, .inl (fun _ => 0))), ((p3 50), .inl (cI, 22, .inl (fun _ => 0))), ((p3 72), .inl (cI, 9216, .inl (fun _ => 0))), ((p3 14), .inl (cI, 2, .inl (fun _ => 0))), ((p3 18), .inl (cI, 2, .inl (fun _ => 0)))]) (fun hPc hDc hFc => va_runS (As := [.int 6, .int 0, .int 8]) (rest := []) ⟨hx, hb, hml, hown, hts⟩ (c_X7_is_v12 l dC dI cI cJ cZ cM H.size) (va_cwS 3 hts gX7_most_X7_is rfl rfl rfl (by decide +kernel) ⟨(Nat.le_of_ble_eq_true rfl), (Nat.le_of_ble_eq_true rfl)⟩) (k_pS hPc hDc hK hN hC hS hFc) rfl rfl hl.1 rfl (lv_room (Nat.le_of_ble_eq_true rfl)) dX7_most_4 ⟨(Nat.le_of_ble_eq_true rfl), (Nat.le_of_ble_eq_true rfl)⟩) hP hD hS hA [] [0, 1, 2, 3, 4, 5] rfl rfl rfl rfl (by decide) (fun _ => rfl) 0 0 rfl rfl (fun r_74 u_75 H locs hw hP hD hS => ?_)
    obtain rfl : r_74 = 1 := hw
    have hP : va_P (dC, dI) vwCl [(p0, .inr (7, oM p3 i7 j7)), ((p3 49), .inl (cI, 22, .inl (fun _ => 0))), ((p3 50), .inl (cI, 22, .inl (fun _ => 0))), ((p3 72), .inl (cI, 9216, .inl (fun _ => 0))), ((p3 14), .inl (cI, 2, .inl (fun _ => 0))), ((p3 18), .inl (cI, 2, .inl (fun _ => 0)))] H := hP
    have hD : va_D A [(p0, .inr (7, oM p3 i7 j7)), ((p3 49), .inl (cI, 22, .inl (fun _ => 0))), ((p3 50), .inl (cI, 22, .inl (fun _ => 0))), ((p3 72), .inl (cI, 9216, .inl (fun _ => 0))), ((p3 14), .inl (cI, 2, .inl (fun _ => 0))), ((p3 18), .inl (cI, 2, .inl (fun _ => 0)))] := hD
    refine lv_if_eq (tgt := 19) hx hb dX7_most_7 (by decide) (fun q9 => absurd q9 (by decide +kernel)) (fun _ => ?_)
    refine lv_iload_n hx hb dX7_most_10 rfl (lv_at hl 2 rfl) ?_
    refine lv_iconst (v := 0) hx hb dX7_most_11 (by decide +kernel) ?_
    refine lv_iconst (v := 3) hx hb dX7_most_12 (by decide +kernel) ?_
    refine k_ci (wc := []) (wr := [(p0, .inr (7, oM p3 i7 j7)), ((p3 49), .inl (cI, 22, .inl (fun _ => 0))), ((p3 50), .inl (cI, 22, .inl (fun _ => 0))), ((p3 72), .inl (cI, 9216, .inl (fun _ => 0))), ((p3 14), .inl (cI, 2, .inl (fun _ => 0))), ((p3 18), .inl (cI, 2, .inl (fun _ => 0)))]) (fun hPc hDc hFc => va_runS (As := [.int p2, .int 0, .int 3]) (rest := []) ⟨hx, hb, hml, hown, hts⟩ (c_X7_is_v21 l dC dI cI cJ cZ cM p2 (by omega) (by omega) H.size) (va_cwS 3 hts gX7_most_X7_is rfl rfl rfl (by decide +kernel) ⟨(Nat.le_of_ble_eq_true rfl), (Nat.le_of_ble_eq_true rfl)⟩) (k_pS hPc hDc hK hN hC hS hFc) rfl rfl hl.1 rfl (lv_room (Nat.le_of_ble_eq_true rfl)) dX7_most_13 ⟨(Nat.le_of_ble_eq_true rfl), (Nat.le_of_ble_eq_true rfl)⟩) hP hD hS hA [] [0, 1, 2, 3, 4, 5] rfl rfl rfl rfl (by decide) (fun _ => rfl) 0 0 rfl rfl (fun r_76 u_77 H locs hw hP hD hS => ?_)
    obtain rfl : r_76 = 1 := hw
    have hP : va_P (dC, dI) vwCl [(p0, .inr (7, oM p3 i7 j7)), ((p3 49), .inl (cI, 22, .inl (fun _ => 0))), ((p3 50), .inl (cI, 22, .inl (fun _ => 0))), ((p3 72), .inl (cI, 9216, .inl (fun _ => 0))), ((p3 14), .inl (cI, 2, .inl (fun _ => 0))), ((p3 18), .inl (cI, 2, .inl (fun _ => 0)))] H := hP
    have hD : va_D A [(p0, .inr (7, oM p3 i7 j7)), ((p3 49), .inl (cI, 22, .inl (fun _ => 0))), ((p3 50), .inl (cI, 22, .inl (fun _ => 0))), ((p3 72), .inl (cI, 9216, .inl (fun _ => 0))), ((p3 14), .inl (cI, 2, .inl (fun _ => 0))), ((p3 18), .inl (cI, 2, .inl (fun _ => 0)))] := hD
    refine lv_if_ne (tgt := 21) hx hb dX7_most_16 (by decide) (fun _ => ?_) (fun q9 => absurd q9 (by decide +kernel))
    refine lv_aload_n hx hb dX7_most_21 rfl (lv_at hl 0 rfl) ?_
    refine k_cv (wc := [(p0, .inr (7, oM p3 i7 j7)), ((p3 49), .inl (cI, 22, .inl (fun _ => 0))), ((p3 50), .inl (cI, 22, .inl (fun _ => 0))), ((p3 72), .inl (cI, 9216, .inl (fun _ => 0))), ((p3 14), .inl (cI, 2, .inl (fun _ => 0))), ((p3 18), .inl (cI, 2, .inl (fun _ => 0)))]) (wr := []) (fun hPc hDc hFc => va_runV (As := []) (rest := []) ⟨hx, hb, hml, hown, hts⟩ (c_X7_climbs_v0 l dC dI cI cJ cZ cM p0 p3 H.size) (cwV 0 hts gX7_most_X7_climbs rfl rfl rfl (by decide +kernel) ⟨(Nat.le_of_ble_eq_true rfl), (Nat.le_of_ble_eq_true rfl)⟩) (k_pV hPc hDc hK hN hC hS hFc hP (q0 := 0) (ci := 7) rfl rfl) rfl rfl hl.1 rfl (lv_room (Nat.le_of_ble_eq_true rfl)) dX7_most_22 ⟨(Nat.le_of_ble_eq_true rfl), (Nat.le_of_ble_eq_true rfl)⟩) hP hD hS hA [0, 1, 2, 3, 4, 5] [] rfl rfl rfl rfl (by decide) (fun _ => rfl) 0 0 rfl rfl (fun u_79 H locs hw hP hD hS => ?_)
    have hP : va_P (dC, dI) vwCl [(p0, .inr (7, oM p3 i7 j7)), ((p3 49), .inl (cI, 22, .inl (fun _ => 0))), ((p3 50), .inl (cI, 22, .inl (fun _ => 0))), ((p3 72), .inl (cI, 9216, .inl (upd (fun _ => (-1)) 0 0))), ((p3 14), .inl (cI, 2, .inl (fun _ => 0))), ((p3 18), .inl (cI, 2, .inl (fun _ => 0)))] H := hP
    have hD : va_D A [(p0, .inr (7, oM p3 i7 j7)), ((p3 49), .inl (cI, 22, .inl (fun _ => 0))), ((p3 50), .inl (cI, 22, .inl (fun _ => 0))), ((p3 72), .inl (cI, 9216, .inl (upd (fun _ => (-1)) 0 0))), ((p3 14), .inl (cI, 2, .inl (fun _ => 0))), ((p3 18), .inl (cI, 2, .inl (fun _ => 0)))] := hD
    refine lv_aload_n hx hb dX7_most_25 rfl (lv_at hl 0 rfl) ?_
    refine k_ci (wc := [(p0, .inr (7, oM p3 i7 j7)), ((p3 14), .inl (cI, 2, .inl (fun _ => 0)))]) (wr := [((p3 49), .inl (cI, 22, .inl (fun _ => 0))), ((p3 50), .inl (cI, 22, .inl (fun _ => 0))), ((p3 72), .inl (cI, 9216, .inl (upd (fun _ => (-1)) 0 0))), ((p3 18), .inl (cI, 2, .inl (fun _ => 0)))]) (fun hPc hDc hFc => va_runV (As := []) (rest := []) ⟨hx, hb, hml, hown, hts⟩ (c_X7_briefOnes_v2 l dC dI cI cJ cZ cM p0 p3 H.size) (cwV 0 hts gX7_most_X7_briefOnes rfl rfl rfl (by decide +kernel) ⟨(Nat.le_of_ble_eq_true rfl), (Nat.le_of_ble_eq_true rfl)⟩) (k_pV hPc hDc hK hN hC hS hFc hP (q0 := 0) (ci := 7) rfl rfl) rfl rfl hl.1 rfl (lv_room (Nat.le_of_ble_eq_true rfl)) dX7_most_26 ⟨(Nat.le_of_ble_eq_true rfl), (Nat.le_of_ble_eq_true rfl)⟩) hP hD hS hA [0, 4] [1, 2, 3, 5] rfl rfl rfl rfl (by decide) (fun _ => rfl) 0 0 rfl rfl (fun r_80 u_81 H locs hw hP hD hS => ?_)
    obtain rfl : r_80 = 0 := hw
    have hP : va_P (dC, dI) vwCl [((p3 49), .inl (cI, 22, .inl (fun _ => 0))), ((p3 50), .inl (cI, 22, .inl (fun _ => 0))), ((p3 72), .inl (cI, 9216, .inl (upd (fun _ => (-1)) 0 0))), ((p3 18), .inl (cI, 2, .inl (fun _ => 0))), (p0, .inr (7, oM p3 i7 j7)), ((p3 14), .inl (cI, 2, .inl (fun _ => 0)))] H := hP
    have hD : va_D A [((p3 49), .inl (cI, 22, .inl (fun _ => 0))), ((p3 50), .inl (cI, 22, .inl (fun _ => 0))), ((p3 72), .inl (cI, 9216, .inl (upd (fun _ => (-1)) 0 0))), ((p3 18), .inl (cI, 2, .inl (fun _ => 0))), (p0, .inr (7, oM p3 i7 j7)), ((p3 14), .inl (cI, 2, .inl (fun _ => 0)))] := hD
    refine lv_iconst (v := (-1)) hx hb dX7_most_29 (by decide +kernel) ?_
    refine lv_ixor hx hb dX7_most_30 ?_
    refine k_int (v := (-1)) (by decide +kernel) ?_
    refine lv_istore_n (lv' := [(3, .int (-1)), (0, .ref p0), (1, .int 6), (2, .int p2)]) hx hb dX7_most_31 rfl hl (by decide) rfl (fun ls hl => ?_)
    refine lv_aload_n hx hb dX7_most_32 rfl (lv_at hl 1 rfl) ?_
    refine lv_iconst (v := (-1)) hx hb dX7_most_33 (by decide +kernel) ?_
    refine k_put (D := (dC, dI)) (ci := 7) (v := .int (-1)) (C := RX7) (T := TX7) (N := 92) (ws' := [((p3 49), .inl (cI, 22, .inl (fun _ => 0))), ((p3 50), .inl (cI, 22, .inl (fun _ => 0))), ((p3 72), .inl (cI, 9216, .inl (upd (fun _ => (-1)) 0 0))), ((p3 18), .inl (cI, 2, .inl (fun _ => 0))), (p0, .inr (7, oM p3 (upd i7 75 (-1)) j7)), ((p3 14), .inl (cI, 2, .inl (fun _ => 0)))]) hx hb hts hinX7 tyX7 tyX7_ok nmX7 hown hK hP hD hS 4 rfl rfl 75 (by decide) w_0 rfl rfl rfl rfl (Nat.le_of_ble_eq_true rfl) rfl dX7_most_34 (fun H locs hP hD hS => ?_)
    refine lv_iconst (v := (-1)) hx hb dX7_most_37 (by decide +kernel) ?_
    refine lv_istore (lv' := [(4, .int (-1)), (3, .int (-1)), (0, .ref p0), (1, .int 6), (2, .int p2)]) hx hb dX7_most_38 hl (by decide) rfl (fun ls hl => ?_)
    refine lv_iconst (v := 0) hx hb dX7_most_40 (by decide +kernel) ?_
    refine lv_istore (lv' := [(5, .int 0), (4, .int (-1)), (3, .int (-1)), (0, .ref p0), (1, .int 6), (2, .int p2)]) hx hb dX7_most_41 hl (by decide) rfl (fun ls hl => ?_)
    refine lv_iload hx hb dX7_most_43 (lv_at hl 0 rfl) ?_
    refine lv_iload_n hx hb dX7_most_45 rfl (lv_at hl 4 rfl) ?_
    refine lv_icmp_gt (tgt := 166) hx hb dX7_most_46 (by decide) (fun q9 => absurd q9 (by decide +kernel)) (fun _ => ?_)
    refine lv_iconst (v := 0) hx hb dX7_most_49 (by decide +kernel) ?_
    refine lv_istore (lv' := [(6, .int 0), (5, .int 0), (4, .int (-1)), (3, .int (-1)), (0, .ref p0), (1, .int 6), (2, .int p2)]) hx hb dX7_most_50 hl (by decide) rfl (fun ls hl => ?_)
    refine lv_iload hx hb dX7_most_52 (lv_at hl 0 rfl) ?_
    refine lv_iconst (v := 1) hx hb dX7_most_54 (by decide +kernel) ?_
    refine lv_aload_n hx hb dX7_most_55 rfl (lv_at hl 4 rfl) ?_
    refine k_get (D := (dC, dI)) (ci := 7) (v := .ref (p3 14)) (C := RX7) (T := TX7) (N := 92) hx hb hts hinX7 hown hK hP 4 rfl rfl 14 (by decide) w_1 rfl rfl dX7_most_56 ?_
    refine lv_aload_n hx hb dX7_most_59 rfl (lv_at hl 4 rfl) ?_
    refine k_get (D := (dC, dI)) (ci := 7) (v := .int 0) (C := RX7) (T := TX7) (N := 92) hx hb hts hinX7 hown hK hP 4 rfl rfl 13 (by decide) w_2 rfl rfl dX7_most_60 ?_
    refine k_iald (v := 0) hx hb hK hP 5 0 0 rfl rfl rfl (Nat.le_of_ble_eq_true rfl) (Nat.le_of_ble_eq_true rfl) rfl dX7_most_63 ?_
    refine lv_ishl hx hb dX7_most_64 ?_
    refine k_int (v := 1) (by decide +kernel) ?_
    refine lv_icmp_ge (tgt := 160) hx hb dX7_most_65 (by decide) (fun q9 => absurd q9 (by decide +kernel)) (fun _ => ?_)
    refine lv_aload_n hx hb dX7_most_68 rfl (lv_at hl 4 rfl) ?_
    refine k_get (D := (dC, dI)) (ci := 7) (v := .ref (p3 72)) (C := RX7) (T := TX7) (N := 92) hx hb hts hinX7 hown hK hP 4 rfl rfl 72 (by decide) w_3 rfl rfl dX7_most_69 ?_
    refine lv_sipush (v := 1024) hx hb dX7_most_72 (by decide +kernel) ?_
    refine lv_iload hx hb dX7_most_75 (lv_at hl 1 rfl) ?_
    refine lv_imul hx hb dX7_most_77 ?_
    refine k_int (v := 0) (by decide +kernel) ?_
    refine lv_iload hx hb dX7_most_78 (lv_at hl 0 rfl) ?_
    refine lv_iadd hx hb dX7_most_80 ?_
    refine k_int (v := 0) (by decide +kernel) ?_
    refine k_iald (v := 0) hx hb hK hP 2 0 0 rfl rfl rfl (Nat.le_of_ble_eq_true rfl) (Nat.le_of_ble_eq_true rfl) rfl dX7_most_81 ?_
    refine lv_istore (lv' := [(7, .int 0), (6, .int 0), (5, .int 0), (4, .int (-1)), (3, .int (-1)), (0, .ref p0), (1, .int 6), (2, .int p2)]) hx hb dX7_most_82 hl (by decide) rfl (fun ls hl => ?_)
    refine lv_iload hx hb dX7_most_84 (lv_at hl 0 rfl) ?_
    refine lv_iconst (v := (-1)) hx hb dX7_most_86 (by decide +kernel) ?_
    refine lv_icmp_ne (tgt := 93) hx hb dX7_most_87 (by decide) (fun _ => ?_) (fun q9 => absurd q9 (by decide +kernel))
    refine lv_aload_n hx hb dX7_most_93 rfl (lv_at hl 5 rfl) ?_
    refine lv_iload hx hb dX7_most_94 (lv_at hl 1 rfl) ?_
    refine lv_iload_n hx hb dX7_most_96 rfl (lv_at hl 4 rfl) ?_
    refine lv_iand hx hb dX7_most_97 ?_
    refine k_int (v := 0) (by decide +kernel) ?_
    refine k_ci (wc := [(p0, .inr (7, oM p3 (upd i7 75 (-1)) j7)), ((p3 14), .inl (cI, 2, .inl (fun _ => 0)))]) (wr := [((p3 49), .inl (cI, 22, .inl (fun _ => 0))), ((p3 50), .inl (cI, 22, .inl (fun _ => 0))), ((p3 72), .inl (cI, 9216, .inl (upd (fun _ => (-1)) 0 0))), ((p3 18), .inl (cI, 2, .inl (fun _ => 0)))]) (fun hPc hDc hFc => va_runV (As := [.int 0]) (rest := []) ⟨hx, hb, hml, hown, hts⟩ (c_X7_worthOf_v1 l dC dI cI cJ cZ cM p0 p3 H.size) (cwV 1 hts gX7_most_X7_worthOf rfl rfl rfl (by decide +kernel) ⟨(Nat.le_of_ble_eq_true rfl), (Nat.le_of_ble_eq_true rfl)⟩) (k_pV hPc hDc hK hN hC hS hFc hP (q0 := 4) (ci := 7) rfl rfl) rfl rfl hl.1 rfl (lv_room (Nat.le_of_ble_eq_true rfl)) dX7_most_98 ⟨(Nat.le_of_ble_eq_true rfl), (Nat.le_of_ble_eq_true rfl)⟩) hP hD hS hA [4, 5] [0, 1, 2, 3] rfl rfl rfl rfl (by decide) (fun _ => rfl) 0 0 rfl rfl (fun r_82 u_83 H locs hw hP hD hS => ?_)
    obtain rfl : r_82 = 0 := hw
    have hP : va_P (dC, dI) vwCl [((p3 49), .inl (cI, 22, .inl (fun _ => 0))), ((p3 50), .inl (cI, 22, .inl (fun _ => 0))), ((p3 72), .inl (cI, 9216, .inl (upd (fun _ => (-1)) 0 0))), ((p3 18), .inl (cI, 2, .inl (fun _ => 0))), (p0, .inr (7, oM p3 (upd i7 75 (-1)) j7)), ((p3 14), .inl (cI, 2, .inl (fun _ => 0)))] H := hP
    have hD : va_D A [((p3 49), .inl (cI, 22, .inl (fun _ => 0))), ((p3 50), .inl (cI, 22, .inl (fun _ => 0))), ((p3 72), .inl (cI, 9216, .inl (upd (fun _ => (-1)) 0 0))), ((p3 18), .inl (cI, 2, .inl (fun _ => 0))), (p0, .inr (7, oM p3 (upd i7 75 (-1)) j7)), ((p3 14), .inl (cI, 2, .inl (fun _ => 0)))] := hD
    refine lv_istore (lv' := [(8, .int 0), (7, .int 0), (6, .int 0), (5, .int 0), (4, .int (-1)), (3, .int (-1)), (0, .ref p0), (1, .int 6), (2, .int p2)]) hx hb dX7_most_101 hl (by decide) rfl (fun ls hl => ?_)
    refine lv_iload hx hb dX7_most_103 (lv_at hl 0 rfl) ?_
    refine lv_iload hx hb dX7_most_105 (lv_at hl 4 rfl) ?_
    refine lv_icmp_lt (tgt := 154) hx hb dX7_most_107 (by decide) (fun q9 => absurd q9 (by decide +kernel)) (fun _ => ?_)
    refine lv_iload hx hb dX7_most_110 (lv_at hl 0 rfl) ?_
    refine lv_iload hx hb dX7_most_112 (lv_at hl 4 rfl) ?_
    refine lv_icmp_ne (tgt := 138) hx hb dX7_most_114 (by decide) (fun _ => ?_) (fun q9 => absurd q9 (by decide +kernel))
    refine lv_iload hx hb dX7_most_138 (lv_at hl 0 rfl) ?_
    refine lv_istore (lv' := [(4, .int 0), (8, .int 0), (7, .int 0), (6, .int 0), (5, .int 0), (3, .int (-1)), (0, .ref p0), (1, .int 6), (2, .int p2)]) hx hb dX7_most_140 hl (by decide) rfl (fun ls hl => ?_)
    refine lv_aload_n hx hb dX7_most_142 rfl (lv_at hl 6 rfl) ?_
    refine lv_iload hx hb dX7_most_143 (lv_at hl 4 rfl) ?_
    refine k_put (D := (dC, dI)) (ci := 7) (v := .int 0) (C := RX7) (T := TX7) (N := 92) (ws' := [((p3 49), .inl (cI, 22, .inl (fun _ => 0))), ((p3 50), .inl (cI, 22, .inl (fun _ => 0))), ((p3 72), .inl (cI, 9216, .inl (upd (fun _ => (-1)) 0 0))), ((p3 18), .inl (cI, 2, .inl (fun _ => 0))), (p0, .inr (7, oM p3 (upd i7 75 0) j7)), ((p3 14), .inl (cI, 2, .inl (fun _ => 0)))]) hx hb hts hinX7 tyX7 tyX7_ok nmX7 hown hK hP hD hS 4 rfl rfl 75 (by decide) w_0 rfl rfl rfl rfl (Nat.le_of_ble_eq_true rfl) rfl dX7_most_145 (fun H locs hP hD hS => ?_)
    refine lv_aload_n hx hb dX7_most_148 rfl (lv_at hl 6 rfl) ?_
    refine lv_iload hx hb dX7_most_149 (lv_at hl 3 rfl) ?_
    refine k_put (D := (dC, dI)) (ci := 7) (v := .int 0) (C := RX7) (T := TX7) (N := 92) (ws' := [((p3 49), .inl (cI, 22, .inl (fun _ => 0))), ((p3 50), .inl (cI, 22, .inl (fun _ => 0))), ((p3 72), .inl (cI, 9216, .inl (upd (fun _ => (-1)) 0 0))), ((p3 18), .inl (cI, 2, .inl (fun _ => 0))), (p0, .inr (7, oM p3 (upd (upd i7 75 0) 76 0) j7)), ((p3 14), .inl (cI, 2, .inl (fun _ => 0)))]) hx hb hts hinX7 tyX7 tyX7_ok nmX7 hown hK hP hD hS 4 rfl rfl 76 (by decide) w_4 rfl rfl rfl rfl (Nat.le_of_ble_eq_true rfl) rfl dX7_most_151 (fun H locs hP hD hS => ?_)
    refine lv_iinc (v := 1) (lv' := [(6, .int 1), (4, .int 0), (8, .int 0), (7, .int 0), (5, .int 0), (3, .int (-1)), (0, .ref p0), (1, .int 6), (2, .int p2)]) hx hb dX7_most_154 hl (k := 3) rfl (by decide +kernel) (by decide) rfl (fun ls hl => ?_)
    refine lv_goto (tgt := 52) hx hb dX7_most_157 (by decide) ?_
    refine lv_iload hx hb dX7_most_52 (lv_at hl 0 rfl) ?_
    refine lv_iconst (v := 1) hx hb dX7_most_54 (by decide +kernel) ?_
    refine lv_aload_n hx hb dX7_most_55 rfl (lv_at hl 6 rfl) ?_
    refine k_get (D := (dC, dI)) (ci := 7) (v := .ref (p3 14)) (C := RX7) (T := TX7) (N := 92) hx hb hts hinX7 hown hK hP 4 rfl rfl 14 (by decide) w_1 rfl rfl dX7_most_56 ?_
    refine lv_aload_n hx hb dX7_most_59 rfl (lv_at hl 6 rfl) ?_
    refine k_get (D := (dC, dI)) (ci := 7) (v := .int 0) (C := RX7) (T := TX7) (N := 92) hx hb hts hinX7 hown hK hP 4 rfl rfl 13 (by decide) w_2 rfl rfl dX7_most_60 ?_
    refine k_iald (v := 0) hx hb hK hP 5 0 0 rfl rfl rfl (Nat.le_of_ble_eq_true rfl) (Nat.le_of_ble_eq_true rfl) rfl dX7_most_63 ?_
    refine lv_ishl hx hb dX7_most_64 ?_
    refine k_int (v := 1) (by decide +kernel) ?_
    refine lv_icmp_ge (tgt := 160) hx hb dX7_most_65 (by decide) (fun _ => ?_) (fun q9 => absurd q9 (by decide +kernel))
    refine lv_iinc (v := 1) (lv' := [(5, .int 1), (6, .int 1), (4, .int 0), (8, .int 0), (7, .int 0), (3, .int (-1)), (0, .ref p0), (1, .int 6), (2, .int p2)]) hx hb dX7_most_160 hl (k := 4) rfl (by decide +kernel) (by decide) rfl (fun ls hl => ?_)
    refine lv_goto (tgt := 43) hx hb dX7_most_163 (by decide) ?_
    refine lv_iload hx hb dX7_most_43 (lv_at hl 0 rfl) ?_
    refine lv_iload_n hx hb dX7_most_45 rfl (lv_at hl 7 rfl) ?_
    refine lv_icmp_gt (tgt := 166) hx hb dX7_most_46 (by decide) (fun q9 => absurd q9 (by decide +kernel)) (fun _ => ?_)
    refine lv_iconst (v := 0) hx hb dX7_most_49 (by decide +kernel) ?_
    refine lv_istore (lv' := [(6, .int 0), (5, .int 1), (4, .int 0), (8, .int 0), (7, .int 0), (3, .int (-1)), (0, .ref p0), (1, .int 6), (2, .int p2)]) hx hb dX7_most_50 hl (by decide) rfl (fun ls hl => ?_)
    refine lv_iload hx hb dX7_most_52 (lv_at hl 0 rfl) ?_
    refine lv_iconst (v := 1) hx hb dX7_most_54 (by decide +kernel) ?_
    refine lv_aload_n hx hb dX7_most_55 rfl (lv_at hl 6 rfl) ?_
    refine k_get (D := (dC, dI)) (ci := 7) (v := .ref (p3 14)) (C := RX7) (T := TX7) (N := 92) hx hb hts hinX7 hown hK hP 4 rfl rfl 14 (by decide) w_1 rfl rfl dX7_most_56 ?_
    refine lv_aload_n hx hb dX7_most_59 rfl (lv_at hl 6 rfl) ?_
    refine k_get (D := (dC, dI)) (ci := 7) (v := .int 0) (C := RX7) (T := TX7) (N := 92) hx hb hts hinX7 hown hK hP 4 rfl rfl 13 (by decide) w_2 rfl rfl dX7_most_60 ?_
    refine k_iald (v := 0) hx hb hK hP 5 0 0 rfl rfl rfl (Nat.le_of_ble_eq_true rfl) (Nat.le_of_ble_eq_true rfl) rfl dX7_most_63 ?_
    refine lv_ishl hx hb dX7_most_64 ?_
    refine k_int (v := 1) (by decide +kernel) ?_
    refine lv_icmp_ge (tgt := 160) hx hb dX7_most_65 (by decide) (fun q9 => absurd q9 (by decide +kernel)) (fun _ => ?_)
    refine lv_aload_n hx hb dX7_most_68 rfl (lv_at hl 6 rfl) ?_
    refine k_get (D := (dC, dI)) (ci := 7) (v := .ref (p3 72)) (C := RX7) (T := TX7) (N := 92) hx hb hts hinX7 hown hK hP 4 rfl rfl 72 (by decide) w_3 rfl rfl dX7_most_69 ?_
    refine lv_sipush (v := 1024) hx hb dX7_most_72 (by decide +kernel) ?_
    refine lv_iload hx hb dX7_most_75 (lv_at hl 1 rfl) ?_
    refine lv_imul hx hb dX7_most_77 ?_
    refine k_int (v := 1024) (by decide +kernel) ?_
    refine lv_iload hx hb dX7_most_78 (lv_at hl 0 rfl) ?_
    refine lv_iadd hx hb dX7_most_80 ?_
    refine k_int (v := 1024) (by decide +kernel) ?_
    refine k_iald (v := (-1)) hx hb hK hP 2 0 1024 rfl rfl rfl (Nat.le_of_ble_eq_true rfl) (Nat.le_of_ble_eq_true rfl) rfl dX7_most_81 ?_
    refine lv_istore (lv' := [(7, .int (-1)), (6, .int 0), (5, .int 1), (4, .int 0), (8, .int 0), (3, .int (-1)), (0, .ref p0), (1, .int 6), (2, .int p2)]) hx hb dX7_most_82 hl (by decide) rfl (fun ls hl => ?_)
    refine lv_iload hx hb dX7_most_84 (lv_at hl 0 rfl) ?_
    refine lv_iconst (v := (-1)) hx hb dX7_most_86 (by decide +kernel) ?_
    refine lv_icmp_ne (tgt := 93) hx hb dX7_most_87 (by decide) (fun q9 => absurd q9 (by decide +kernel)) (fun _ => ?_)
    refine lv_goto (tgt := 154) hx hb dX7_most_90 (by decide) ?_
    refine lv_iinc (v := 1) (lv' := [(6, .int 1), (7, .int (-1)), (5, .int 1), (4, .int 0), (8, .int 0), (3, .int (-1)), (0, .ref p0), (1, .int 6), (2, .int p2)]) hx hb dX7_most_154 hl (k := 1) rfl (by decide +kernel) (by decide) rfl (fun ls hl => ?_)
    refine lv_goto (tgt := 52) hx hb dX7_most_157 (by decide) ?_
    refine lv_iload hx hb dX7_most_52 (lv_at hl 0 rfl) ?_
    refine lv_iconst (v := 1) hx hb dX7_most_54 (by decide +kernel) ?_
    refine lv_aload_n hx hb dX7_most_55 rfl (lv_at hl 6 rfl) ?_
    refine k_get (D := (dC, dI)) (ci := 7) (v := .ref (p3 14)) (C := RX7) (T := TX7) (N := 92) hx hb hts hinX7 hown hK hP 4 rfl rfl 14 (by decide) w_1 rfl rfl dX7_most_56 ?_
    refine lv_aload_n hx hb dX7_most_59 rfl (lv_at hl 6 rfl) ?_
    refine k_get (D := (dC, dI)) (ci := 7) (v := .int 0) (C := RX7) (T := TX7) (N := 92) hx hb hts hinX7 hown hK hP 4 rfl rfl 13 (by decide) w_2 rfl rfl dX7_most_60 ?_
    refine k_iald (v := 0) hx hb hK hP 5 0 0 rfl rfl rfl (Nat.le_of_ble_eq_true rfl) (Nat.le_of_ble_eq_true rfl) rfl dX7_most_63 ?_
    refine lv_ishl hx hb dX7_most_64 ?_
    refine k_int (v := 1) (by decide +kernel) ?_
    refine lv_icmp_ge (tgt := 160) hx hb dX7_most_65 (by decide) (fun _ => ?_) (fun q9 => absurd q9 (by decide +kernel))
    refine lv_iinc (v := 2) (lv' := [(5, .int 2), (6, .int 1), (7, .int (-1)), (4, .int 0), (8, .int 0), (3, .int (-1)), (0, .ref p0), (1, .int 6), (2, .int p2)]) hx hb dX7_most_160 hl (k := 2) rfl (by decide +kernel) (by decide) rfl (fun ls hl => ?_)
    refine lv_goto (tgt := 43) hx hb dX7_most_163 (by decide) ?_
    refine lv_iload hx hb dX7_most_43 (lv_at hl 0 rfl) ?_
    refine lv_iload_n hx hb dX7_most_45 rfl (lv_at hl 7 rfl) ?_
    refine lv_icmp_gt (tgt := 166) hx hb dX7_most_46 (by decide) (fun q9 => absurd q9 (by decide +kernel)) (fun _ => ?_)
    refine lv_iconst (v := 0) hx hb dX7_most_49 (by decide +kernel) ?_
    refine lv_istore (lv' := [(6, .int 0), (5, .int 2), (7, .int (-1)), (4, .int 0), (8, .int 0), (3, .int (-1)), (0, .ref p0), (1, .int 6), (2, .int p2)]) hx hb dX7_most_50 hl (by decide) rfl (fun ls hl => ?_)
    refine lv_iload hx hb dX7_most_52 (lv_at hl 0 rfl) ?_
    refine lv_iconst (v := 1) hx hb dX7_most_54 (by decide +kernel) ?_
    refine lv_aload_n hx hb dX7_most_55 rfl (lv_at hl 6 rfl) ?_
    refine k_get (D := (dC, dI)) (ci := 7) (v := .ref (p3 14)) (C := RX7) (T := TX7) (N := 92) hx hb hts hinX7 hown hK hP 4 rfl rfl 14 (by decide) w_1 rfl rfl dX7_most_56 ?_
    refine lv_aload_n hx hb dX7_most_59 rfl (lv_at hl 6 rfl) ?_
    refine k_get (D := (dC, dI)) (ci := 7) (v := .int 0) (C := RX7) (T := TX7) (N := 92) hx hb hts hinX7 hown hK hP 4 rfl rfl 13 (by decide) w_2 rfl rfl dX7_most_60 ?_
    refine k_iald (v := 0) hx hb hK hP 5 0 0 rfl rfl rfl (Nat.le_of_ble_eq_true rfl) (Nat.le_of_ble_eq_true rfl) rfl dX7_most_63 ?_
    refine lv_ishl hx hb dX7_most_64 ?_
    refine k_int (v := 1) (by decide +kernel) ?_
    refine lv_icmp_ge (tgt := 160) hx hb dX7_most_65 (by decide) (fun q9 => absurd q9 (by decide +kernel)) (fun _ => ?_)
    refine lv_aload_n hx hb dX7_most_68 rfl (lv_at hl 6 rfl) ?_
    refine k_get (D := (dC, dI)) (ci := 7) (v := .ref (p3 72)) (C := RX7) (T := TX7) (N := 92) hx hb hts hinX7 hown hK hP 4 rfl rfl 72 (by decide) w_3 rfl rfl dX7_most_69 ?_
    refine lv_sipush (v := 1024) hx hb dX7_most_72 (by decide +kernel) ?_
    refine lv_iload hx hb dX7_most_75 (lv_at hl 1 rfl) ?_
    refine lv_imul hx hb dX7_most_77 ?_
    refine k_int (v := 2048) (by decide +kernel) ?_
    refine lv_iload hx hb dX7_most_78 (lv_at hl 0 rfl) ?_
    refine lv_iadd hx hb dX7_most_80 ?_
    refine k_int (v := 2048) (by decide +kernel) ?_
    refine k_iald (v := (-1)) hx hb hK hP 2 0 2048 rfl rfl rfl (Nat.le_of_ble_eq_true rfl) (Nat.le_of_ble_eq_true rfl) rfl dX7_most_81 ?_
    refine lv_istore (lv' := [(7, .int (-1)), (6, .int 0), (5, .int 2), (4, .int 0), (8, .int 0), (3, .int (-1)), (0, .ref p0), (1, .int 6), (2, .int p2)]) hx hb dX7_most_82 hl (by decide) rfl (fun ls hl => ?_)
    refine lv_iload hx hb dX7_most_84 (lv_at hl 0 rfl) ?_
    refine lv_iconst (v := (-1)) hx hb dX7_most_86 (by decide +kernel) ?_
    refine lv_icmp_ne (tgt := 93) hx hb dX7_most_87 (by decide) (fun q9 => absurd q9 (by decide +kernel)) (fun _ => ?_)
    refine lv_goto (tgt := 154) hx hb dX7_most_90 (by decide) ?_
    refine lv_iinc (v := 1) (lv' := [(6, .int 1), (7, .int (-1)), (5, .int 2), (4, .int 0), (8, .int 0), (3, .int (-1)), (0, .ref p0), (1, .int 6), (2, .int p2)]) hx hb dX7_most_154 hl (k := 1) rfl (by decide +kernel) (by decide) rfl (fun ls hl => ?_)
    refine lv_goto (tgt := 52) hx hb dX7_most_157 (by decide) ?_
    refine lv_iload hx hb dX7_most_52 (lv_at hl 0 rfl) ?_
    refine lv_iconst (v := 1) hx hb dX7_most_54 (by decide +kernel) ?_
    refine lv_aload_n hx hb dX7_most_55 rfl (lv_at hl 6 rfl) ?_
    refine k_get (D := (dC, dI)) (ci := 7) (v := .ref (p3 14)) (C := RX7) (T := TX7) (N := 92) hx hb hts hinX7 hown hK hP 4 rfl rfl 14 (by decide) w_1 rfl rfl dX7_most_56 ?_
    refine lv_aload_n hx hb dX7_most_59 rfl (lv_at hl 6 rfl) ?_
    refine k_get (D := (dC, dI)) (ci := 7) (v := .int 0) (C := RX7) (T := TX7) (N := 92) hx hb hts hinX7 hown hK hP 4 rfl rfl 13 (by decide) w_2 rfl rfl dX7_most_60 ?_
    refine k_iald (v := 0) hx hb hK hP 5 0 0 rfl rfl rfl (Nat.le_of_ble_eq_true rfl) (Nat.le_of_ble_eq_true rfl) rfl dX7_most_63 ?_
    refine lv_ishl hx hb dX7_most_64 ?_
    refine k_int (v := 1) (by decide +kernel) ?_
    refine lv_icmp_ge (tgt := 160) hx hb dX7_most_65 (by decide) (fun _ => ?_) (fun q9 => absurd q9 (by decide +kernel))
    refine lv_iinc (v := 3) (lv' := [(5, .int 3), (6, .int 1), (7, .int (-1)), (4, .int 0), (8, .int 0), (3, .int (-1)), (0, .ref p0), (1, .int 6), (2, .int p2)]) hx hb dX7_most_160 hl (k := 2) rfl (by decide +kernel) (by decide) rfl (fun ls hl => ?_)
    refine lv_goto (tgt := 43) hx hb dX7_most_163 (by decide) ?_
    refine lv_iload hx hb dX7_most_43 (lv_at hl 0 rfl) ?_
    refine lv_iload_n hx hb dX7_most_45 rfl (lv_at hl 7 rfl) ?_
    refine lv_icmp_gt (tgt := 166) hx hb dX7_most_46 (by decide) (fun q9 => absurd q9 (by decide +kernel)) (fun _ => ?_)
    refine lv_iconst (v := 0) hx hb dX7_most_49 (by decide +kernel) ?_
    refine lv_istore (lv' := [(6, .int 0), (5, .int 3), (7, .int (-1)), (4, .int 0), (8, .int 0), (3, .int (-1)), (0, .ref p0), (1, .int 6), (2, .int p2)]) hx hb dX7_most_50 hl (by decide) rfl (fun ls hl => ?_)
    refine lv_iload hx hb dX7_most_52 (lv_at hl 0 rfl) ?_
    refine lv_iconst (v := 1) hx hb dX7_most_54 (by decide +kernel) ?_
    refine lv_aload_n hx hb dX7_most_55 rfl (lv_at hl 6 rfl) ?_
    refine k_get (D := (dC, dI)) (ci := 7) (v := .ref (p3 14)) (C := RX7) (T := TX7) (N := 92) hx hb hts hinX7 hown hK hP 4 rfl rfl 14 (by decide) w_1 rfl rfl dX7_most_56 ?_
    refine lv_aload_n hx hb dX7_most_59 rfl (lv_at hl 6 rfl) ?_
    refine k_get (D := (dC, dI)) (ci := 7) (v := .int 0) (C := RX7) (T := TX7) (N := 92) hx hb hts hinX7 hown hK hP 4 rfl rfl 13 (by decide) w_2 rfl rfl dX7_most_60 ?_
    refine k_iald (v := 0) hx hb hK hP 5 0 0 rfl rfl rfl (Nat.le_of_ble_eq_true rfl) (Nat.le_of_ble_eq_true rfl) rfl dX7_most_63 ?_
    refine lv_ishl hx hb dX7_most_64 ?_
    refine k_int (v := 1) (by decide +kernel) ?_
    refine lv_icmp_ge (tgt := 160) hx hb dX7_most_65 (by decide) (fun q9 => absurd q9 (by decide +kernel)) (fun _ => ?_)
    refine lv_aload_n hx hb dX7_most_68 rfl (lv_at hl 6 rfl) ?_
    refine k_get (D := (dC, dI)) (ci := 7) (v := .ref (p3 72)) (C := RX7) (T := TX7) (N := 92) hx hb hts hinX7 hown hK hP 4 rfl rfl 72 (by decide) w_3 rfl rfl dX7_most_69 ?_
    refine lv_sipush (v := 1024) hx hb dX7_most_72 (by decide +kernel) ?_
    refine lv_iload hx hb dX7_most_75 (lv_at hl 1 rfl) ?_
    refine lv_imul hx hb dX7_most_77 ?_
    refine k_int (v := 3072) (by decide +kernel) ?_
    refine lv_iload hx hb dX7_most_78 (lv_at hl 0 rfl) ?_
    refine lv_iadd hx hb dX7_most_80 ?_
    refine k_int (v := 3072) (by decide +kernel) ?_
    refine k_iald (v := (-1)) hx hb hK hP 2 0 3072 rfl rfl rfl (Nat.le_of_ble_eq_true rfl) (Nat.le_of_ble_eq_true rfl) rfl dX7_most_81 ?_
    refine lv_istore (lv' := [(7, .int (-1)), (6, .int 0), (5, .int 3), (4, .int 0), (8, .int 0), (3, .int (-1)), (0, .ref p0), (1, .int 6), (2, .int p2)]) hx hb dX7_most_82 hl (by decide) rfl (fun ls hl => ?_)
    refine lv_iload hx hb dX7_most_84 (lv_at hl 0 rfl) ?_
    refine lv_iconst (v := (-1)) hx hb dX7_most_86 (by decide +kernel) ?_
    refine lv_icmp_ne (tgt := 93) hx hb dX7_most_87 (by decide) (fun q9 => absurd q9 (by decide +kernel)) (fun _ => ?_)
    refine lv_goto (tgt := 154) hx hb dX7_most_90 (by decide) ?_
    refine lv_iinc (v := 1) (lv' := [(6, .int 1), (7, .int (-1)), (5, .int 3), (4, .int 0), (8, .int 0), (3, .int (-1)), (0, .ref p0), (1, .int 6), (2, .int p2)]) hx hb dX7_most_154 hl (k := 1) rfl (by decide +kernel) (by decide) rfl (fun ls hl => ?_)
    refine lv_goto (tgt := 52) hx hb dX7_most_157 (by decide) ?_
    refine lv_iload hx hb dX7_most_52 (lv_at hl 0 rfl) ?_
    refine lv_iconst (v := 1) hx hb dX7_most_54 (by decide +kernel) ?_
    refine lv_aload_n hx hb dX7_most_55 rfl (lv_at hl 6 rfl) ?_
    refine k_get (D := (dC, dI)) (ci := 7) (v := .ref (p3 14)) (C := RX7) (T := TX7) (N := 92) hx hb hts hinX7 hown hK hP 4 rfl rfl 14 (by decide) w_1 rfl rfl dX7_most_56 ?_
    refine lv_aload_n hx hb dX7_most_59 rfl (lv_at hl 6 rfl) ?_
    refine k_get (D := (dC, dI)) (ci := 7) (v := .int 0) (C := RX7) (T := TX7) (N := 92) hx hb hts hinX7 hown hK hP 4 rfl rfl 13 (by decide) w_2 rfl rfl dX7_most_60 ?_
    refine k_iald (v := 0) hx hb hK hP 5 0 0 rfl rfl rfl (Nat.le_of_ble_eq_true rfl) (Nat.le_of_ble_eq_true rfl) rfl dX7_most_63 ?_
    refine lv_ishl hx hb dX7_most_64 ?_
    refine k_int (v := 1) (by decide +kernel) ?_
    refine lv_icmp_ge (tgt := 160) hx hb dX7_most_65 (by decide) (fun _ => ?_) (fun q9 => absurd q9 (by decide +kernel))
    refine lv_iinc (v := 4) (lv' := [(5, .int 4), (6, .int 1), (7, .int (-1)), (4, .int 0), (8, .int 0), (3, .int (-1)), (0, .ref p0), (1, .int 6), (2, .int p2)]) hx hb dX7_most_160 hl (k := 2) rfl (by decide +kernel) (by decide) rfl (fun ls hl => ?_)
    refine lv_goto (tgt := 43) hx hb dX7_most_163 (by decide) ?_
    refine lv_iload hx hb dX7_most_43 (lv_at hl 0 rfl) ?_
    refine lv_iload_n hx hb dX7_most_45 rfl (lv_at hl 7 rfl) ?_
    refine lv_icmp_gt (tgt := 166) hx hb dX7_most_46 (by decide) (fun q9 => absurd q9 (by decide +kernel)) (fun _ => ?_)
    refine lv_iconst (v := 0) hx hb dX7_most_49 (by decide +kernel) ?_
    refine lv_istore (lv' := [(6, .int 0), (5, .int 4), (7, .int (-1)), (4, .int 0), (8, .int 0), (3, .int (-1)), (0, .ref p0), (1, .int 6), (2, .int p2)]) hx hb dX7_most_50 hl (by decide) rfl (fun ls hl => ?_)
    refine lv_iload hx hb dX7_most_52 (lv_at hl 0 rfl) ?_
    refine lv_iconst (v := 1) hx hb dX7_most_54 (by decide +kernel) ?_
    refine lv_aload_n hx hb dX7_most_55 rfl (lv_at hl 6 rfl) ?_
    refine k_get (D := (dC, dI)) (ci := 7) (v := .ref (p3 14)) (C := RX7) (T := TX7) (N := 92) hx hb hts hinX7 hown hK hP 4 rfl rfl 14 (by decide) w_1 rfl rfl dX7_most_56 ?_
    refine lv_aload_n hx hb dX7_most_59 rfl (lv_at hl 6 rfl) ?_
    refine k_get (D := (dC, dI)) (ci := 7) (v := .int 0) (C := RX7) (T := TX7) (N := 92) hx hb hts hinX7 hown hK hP 4 rfl rfl 13 (by decide) w_2 rfl rfl dX7_most_60 ?_
    refine k_iald (v := 0) hx hb hK hP 5 0 0 rfl rfl rfl (Nat.le_of_ble_eq_true rfl) (Nat.le_of_ble_eq_true rfl) rfl dX7_most_63 ?_
    refine lv_ishl hx hb dX7_most_64 ?_
    refine k_int (v := 1) (by decide +kernel) ?_
    refine lv_icmp_ge (tgt := 160) hx hb dX7_most_65 (by decide) (fun q9 => absurd q9 (by decide +kernel)) (fun _ => ?_)
    refine lv_aload_n hx hb dX7_most_68 rfl (lv_at hl 6 rfl) ?_
    refine k_get (D := (dC, dI)) (ci := 7) (v := .ref (p3 72)) (C := RX7) (T := TX7) (N := 92) hx hb hts hinX7 hown hK hP 4 rfl rfl 72 (by decide) w_3 rfl rfl dX7_most_69 ?_
    refine lv_sipush (v := 1024) hx hb dX7_most_72 (by decide +kernel) ?_
    refine lv_iload hx hb dX7_most_75 (lv_at hl 1 rfl) ?_
    refine lv_imul hx hb dX7_most_77 ?_
    refine k_int (v := 4096) (by decide +kernel) ?_
    refine lv_iload hx hb dX7_most_78 (lv_at hl 0 rfl) ?_
    refine lv_iadd hx hb dX7_most_80 ?_
    refine k_int (v := 4096) (by decide +kernel) ?_
    refine k_iald (v := (-1)) hx hb hK hP 2 0 4096 rfl rfl rfl (Nat.le_of_ble_eq_true rfl) (Nat.le_of_ble_eq_true rfl) rfl dX7_most_81 ?_
    refine lv_istore (lv' := [(7, .int (-1)), (6, .int 0), (5, .int 4), (4, .int 0), (8, .int 0), (3, .int (-1)), (0, .ref p0), (1, .int 6), (2, .int p2)]) hx hb dX7_most_82 hl (by decide) rfl (fun ls hl => ?_)
    refine lv_iload hx hb dX7_most_84 (lv_at hl 0 rfl) ?_
    refine lv_iconst (v := (-1)) hx hb dX7_most_86 (by decide +kernel) ?_
    refine lv_icmp_ne (tgt := 93) hx hb dX7_most_87 (by decide) (fun q9 => absurd q9 (by decide +kernel)) (fun _ => ?_)
    refine lv_goto (tgt := 154) hx hb dX7_most_90 (by decide) ?_
    refine lv_iinc (v := 1) (lv' := [(6, .int 1), (7, .int (-1)), (5, .int 4), (4, .int 0), (8, .int 0), (3, .int (-1)), (0, .ref p0), (1, .int 6), (2, .int p2)]) hx hb dX7_most_154 hl (k := 1) rfl (by decide +kernel) (by decide) rfl (fun ls hl => ?_)
    refine lv_goto (tgt := 52) hx hb dX7_most_157 (by decide) ?_
    refine lv_iload hx hb dX7_most_52 (lv_at hl 0 rfl) ?_
    refine lv_iconst (v := 1) hx hb dX7_most_54 (by decide +kernel) ?_
    refine lv_aload_n hx hb dX7_most_55 rfl (lv_at hl 6 rfl) ?_
    refine k_get (D := (dC, dI)) (ci := 7) (v := .ref (p3 14)) (C := RX7) (T := TX7) (N := 92) hx hb hts hinX7 hown hK hP 4 rfl rfl 14 (by decide) w_1 rfl rfl dX7_most_56 ?_
    refine lv_aload_n hx hb dX7_most_59 rfl (lv_at hl 6 rfl) ?_
    refine k_get (D := (dC, dI)) (ci := 7) (v := .int 0) (C := RX7) (T := TX7) (N := 92) hx hb hts hinX7 hown hK hP 4 rfl rfl 13 (by decide) w_2 rfl rfl dX7_most_60 ?_
    refine k_iald (v := 0) hx hb hK hP 5 0 0 rfl rfl rfl (Nat.le_of_ble_eq_true rfl) (Nat.le_of_ble_eq_true rfl) rfl dX7_most_63 ?_
    refine lv_ishl hx hb dX7_most_64 ?_
    refine k_int (v := 1) (by decide +kernel) ?_
    refine lv_icmp_ge (tgt := 160) hx hb dX7_most_65 (by decide) (fun _ => ?_) (fun q9 => absurd q9 (by decide +kernel))
    refine lv_iinc (v := 5) (lv' := [(5, .int 5), (6, .int 1), (7, .int (-1)), (4, .int 0), (8, .int 0), (3, .int (-1)), (0, .ref p0), (1, .int 6), (2, .int p2)]) hx hb dX7_most_160 hl (k := 2) rfl (by decide +kernel) (by decide) rfl (fun ls hl => ?_)
    refine lv_goto (tgt := 43) hx hb dX7_most_163 (by decide) ?_
    refine lv_iload hx hb dX7_most_43 (lv_at hl 0 rfl) ?_
    refine lv_iload_n hx hb dX7_most_45 rfl (lv_at hl 7 rfl) ?_
    refine lv_icmp_gt (tgt := 166) hx hb dX7_most_46 (by decide) (fun q9 => absurd q9 (by decide +kernel)) (fun _ => ?_)
    refine lv_iconst (v := 0) hx hb dX7_most_49 (by decide +kernel) ?_
    refine lv_istore (lv' := [(6, .int 0), (5, .int 5), (7, .int (-1)), (4, .int 0), (8, .int 0), (3, .int (-1)), (0, .ref p0), (1, .int 6), (2, .int p2)]) hx hb dX7_most_50 hl (by decide) rfl (fun ls hl => ?_)
    refine lv_iload hx hb dX7_most_52 (lv_at hl 0 rfl) ?_
    refine lv_iconst (v := 1) hx hb dX7_most_54 (by decide +kernel) ?_
    refine lv_aload_n hx hb dX7_most_55 rfl (lv_at hl 6 rfl) ?_
    refine k_get (D := (dC, dI)) (ci := 7) (v := .ref (p3 14)) (C := RX7) (T := TX7) (N := 92) hx hb hts hinX7 hown hK hP 4 rfl rfl 14 (by decide) w_1 rfl rfl dX7_most_56 ?_
    refine lv_aload_n hx hb dX7_most_59 rfl (lv_at hl 6 rfl) ?_
    refine k_get (D := (dC, dI)) (ci := 7) (v := .int 0) (C := RX7) (T := TX7) (N := 92) hx hb hts hinX7 hown hK hP 4 rfl rfl 13 (by decide) w_2 rfl rfl dX7_most_60 ?_
    refine k_iald (v := 0) hx hb hK hP 5 0 0 rfl rfl rfl (Nat.le_of_ble_eq_true rfl) (Nat.le_of_ble_eq_true rfl) rfl dX7_most_63 ?_
    refine lv_ishl hx hb dX7_most_64 ?_
    refine k_int (v := 1) (by decide +kernel) ?_
    refine lv_icmp_ge (tgt := 160) hx hb dX7_most_65 (by decide) (fun q9 => absurd q9 (by decide +kernel)) (fun _ => ?_)
    refine lv_aload_n hx hb dX7_most_68 rfl (lv_at hl 6 rfl) ?_
    refine k_get (D := (dC, dI)) (ci := 7) (v := .ref (p3 72)) (C := RX7) (T := TX7) (N := 92) hx hb hts hinX7 hown hK hP 4 rfl rfl 72 (by decide) w_3 rfl rfl dX7_most_69 ?_
    refine lv_sipush (v := 1024) hx hb dX7_most_72 (by decide +kernel) ?_
    refine lv_iload hx hb dX7_most_75 (lv_at hl 1 rfl) ?_
    refine lv_imul hx hb dX7_most_77 ?_
    refine k_int (v := 5120) (by decide +kernel) ?_
    refine lv_iload hx hb dX7_most_78 (lv_at hl 0 rfl) ?_
    refine lv_iadd hx hb dX7_most_80 ?_
    refine k_int (v := 5120) (by decide +kernel) ?_
    refine k_iald (v := (-1)) hx hb hK hP 2 0 5120 rfl rfl rfl (Nat.le_of_ble_eq_true rfl) (Nat.le_of_ble_eq_true rfl) rfl dX7_most_81 ?_
    refine lv_istore (lv' := [(7, .int (-1)), (6, .int 0), (5, .int 5), (4, .int 0), (8, .int 0), (3, .int (-1)), (0, .ref p0), (1, .int 6), (2, .int p2)]) hx hb dX7_most_82 hl (by decide) rfl (fun ls hl => ?_)
    refine lv_iload hx hb dX7_most_84 (lv_at hl 0 rfl) ?_
    refine lv_iconst (v := (-1)) hx hb dX7_most_86 (by decide +kernel) ?_
    refine lv_icmp_ne (tgt := 93) hx hb dX7_most_87 (by decide) (fun q9 => absurd q9 (by decide +kernel)) (fun _ => ?_)
    refine lv_goto (tgt := 154) hx hb dX7_most_90 (by decide) ?_
    refine lv_iinc (v := 1) (lv' := [(6, .int 1), (7, .int (-1)), (5, .int 5), (4, .int 0), (8, .int 0), (3, .int (-1)), (0, .ref p0), (1, .int 6), (2, .int p2)]) hx hb dX7_most_154 hl (k := 1) rfl (by decide +kernel) (by decide) rfl (fun ls hl => ?_)
    refine lv_goto (tgt := 52) hx hb dX7_most_157 (by decide) ?_
    refine lv_iload hx hb dX7_most_52 (lv_at hl 0 rfl) ?_
    refine lv_iconst (v := 1) hx hb dX7_most_54 (by decide +kernel) ?_
    refine lv_aload_n hx hb dX7_most_55 rfl (lv_at hl 6 rfl) ?_
    refine k_get (D := (dC, dI)) (ci := 7) (v := .ref (p3 14)) (C := RX7) (T := TX7) (N := 92) hx hb hts hinX7 hown hK hP 4 rfl rfl 14 (by decide) w_1 rfl rfl dX7_most_56 ?_
    refine lv_aload_n hx hb dX7_most_59 rfl (lv_at hl 6 rfl) ?_
    refine k_get (D := (dC, dI)) (ci := 7) (v := .int 0) (C := RX7) (T := TX7) (N := 92) hx hb hts hinX7 hown hK hP 4 rfl rfl 13 (by decide) w_2 rfl rfl dX7_most_60 ?_
    refine k_iald (v := 0) hx hb hK hP 5 0 0 rfl rfl rfl (Nat.le_of_ble_eq_true rfl) (Nat.le_of_ble_eq_true rfl) rfl dX7_most_63 ?_
    refine lv_ishl hx hb dX7_most_64 ?_
    refine k_int (v := 1) (by decide +kernel) ?_
    refine lv_icmp_ge (tgt := 160) hx hb dX7_most_65 (by decide) (fun _ => ?_) (fun q9 => absurd q9 (by decide +kernel))
    refine lv_iinc (v := 6) (lv' := [(5, .int 6), (6, .int 1), (7, .int (-1)), (4, .int 0), (8, .int 0), (3, .int (-1)), (0, .ref p0), (1, .int 6), (2, .int p2)]) hx hb dX7_most_160 hl (k := 2) rfl (by decide +kernel) (by decide) rfl (fun ls hl => ?_)
    refine lv_goto (tgt := 43) hx hb dX7_most_163 (by decide) ?_
    refine lv_iload hx hb dX7_most_43 (lv_at hl 0 rfl) ?_
    refine lv_iload_n hx hb dX7_most_45 rfl (lv_at hl 7 rfl) ?_
    refine lv_icmp_gt (tgt := 166) hx hb dX7_most_46 (by decide) (fun q9 => absurd q9 (by decide +kernel)) (fun _ => ?_)
    refine lv_iconst (v := 0) hx hb dX7_most_49 (by decide +kernel) ?_
    refine lv_istore (lv' := [(6, .int 0), (5, .int 6), (7, .int (-1)), (4, .int 0), (8, .int 0), (3, .int (-1)), (0, .ref p0), (1, .int 6), (2, .int p2)]) hx hb dX7_most_50 hl (by decide) rfl (fun ls hl => ?_)
    refine lv_iload hx hb dX7_most_52 (lv_at hl 0 rfl) ?_
    refine lv_iconst (v := 1) hx hb dX7_most_54 (by decide +kernel) ?_
    refine lv_aload_n hx hb dX7_most_55 rfl (lv_at hl 6 rfl) ?_
    refine k_get (D := (dC, dI)) (ci := 7) (v := .ref (p3 14)) (C := RX7) (T := TX7) (N := 92) hx hb hts hinX7 hown hK hP 4 rfl rfl 14 (by decide) w_1 rfl rfl dX7_most_56 ?_
    refine lv_aload_n hx hb dX7_most_59 rfl (lv_at hl 6 rfl) ?_
    refine k_get (D := (dC, dI)) (ci := 7) (v := .int 0) (C := RX7) (T := TX7) (N := 92) hx hb hts hinX7 hown hK hP 4 rfl rfl 13 (by decide) w_2 rfl rfl dX7_most_60 ?_
    refine k_iald (v := 0) hx hb hK hP 5 0 0 rfl rfl rfl (Nat.le_of_ble_eq_true rfl) (Nat.le_of_ble_eq_true rfl) rfl dX7_most_63 ?_
    refine lv_ishl hx hb dX7_most_64 ?_
    refine k_int (v := 1) (by decide +kernel) ?_
    refine lv_icmp_ge (tgt := 160) hx hb dX7_most_65 (by decide) (fun q9 => absurd q9 (by decide +kernel)) (fun _ => ?_)
    refine lv_aload_n hx hb dX7_most_68 rfl (lv_at hl 6 rfl) ?_
    refine k_get (D := (dC, dI)) (ci := 7) (v := .ref (p3 72)) (C := RX7) (T := TX7) (N := 92) hx hb hts hinX7 hown hK hP 4 rfl rfl 72 (by decide) w_3 rfl rfl dX7_most_69 ?_
    refine lv_sipush (v := 1024) hx hb dX7_most_72 (by decide +kernel) ?_
    refine lv_iload hx hb dX7_most_75 (lv_at hl 1 rfl) ?_
    refine lv_imul hx hb dX7_most_77 ?_
    refine k_int (v := 6144) (by decide +kernel) ?_
    refine lv_iload hx hb dX7_most_78 (lv_at hl 0 rfl) ?_
    refine lv_iadd hx hb dX7_most_80 ?_
    refine k_int (v := 6144) (by decide +kernel) ?_
    refine k_iald (v := (-1)) hx hb hK hP 2 0 6144 rfl rfl rfl (Nat.le_of_ble_eq_true rfl) (Nat.le_of_ble_eq_true rfl) rfl dX7_most_81 ?_
    refine lv_istore (lv' := [(7, .int (-1)), (6, .int 0), (5, .int 6), (4, .int 0), (8, .int 0), (3, .int (-1)), (0, .ref p0), (1, .int 6), (2, .int p2)]) hx hb dX7_most_82 hl (by decide) rfl (fun ls hl => ?_)
    refine lv_iload hx hb dX7_most_84 (lv_at hl 0 rfl) ?_
    refine lv_iconst (v := (-1)) hx hb dX7_most_86 (by decide +kernel) ?_
    refine lv_icmp_ne (tgt := 93) hx hb dX7_most_87 (by decide) (fun q9 => absurd q9 (by decide +kernel)) (fun _ => ?_)
    refine lv_goto (tgt := 154) hx hb dX7_most_90 (by decide) ?_
    refine lv_iinc (v := 1) (lv' := [(6, .int 1), (7, .int (-1)), (5, .int 6), (4, .int 0), (8, .int 0), (3, .int (-1)), (0, .ref p0), (1, .int 6), (2, .int p2)]) hx hb dX7_most_154 hl (k := 1) rfl (by decide +kernel) (by decide) rfl (fun ls hl => ?_)
    refine lv_goto (tgt := 52) hx hb dX7_most_157 (by decide) ?_
    refine lv_iload hx hb dX7_most_52 (lv_at hl 0 rfl) ?_
    refine lv_iconst (v := 1) hx hb dX7_most_54 (by decide +kernel) ?_
    refine lv_aload_n hx hb dX7_most_55 rfl (lv_at hl 6 rfl) ?_
    refine k_get (D := (dC, dI)) (ci := 7) (v := .ref (p3 14)) (C := RX7) (T := TX7) (N := 92) hx hb hts hinX7 hown hK hP 4 rfl rfl 14 (by decide) w_1 rfl rfl dX7_most_56 ?_
    refine lv_aload_n hx hb dX7_most_59 rfl (lv_at hl 6 rfl) ?_
    refine k_get (D := (dC, dI)) (ci := 7) (v := .int 0) (C := RX7) (T := TX7) (N := 92) hx hb hts hinX7 hown hK hP 4 rfl rfl 13 (by decide) w_2 rfl rfl dX7_most_60 ?_
    refine k_iald (v := 0) hx hb hK hP 5 0 0 rfl rfl rfl (Nat.le_of_ble_eq_true rfl) (Nat.le_of_ble_eq_true rfl) rfl dX7_most_63 ?_
    refine lv_ishl hx hb dX7_most_64 ?_
    refine k_int (v := 1) (by decide +kernel) ?_
    refine lv_icmp_ge (tgt := 160) hx hb dX7_most_65 (by decide) (fun _ => ?_) (fun q9 => absurd q9 (by decide +kernel))
    refine lv_iinc (v := 7) (lv' := [(5, .int 7), (6, .int 1), (7, .int (-1)), (4, .int 0), (8, .int 0), (3, .int (-1)), (0, .ref p0), (1, .int 6), (2, .int p2)]) hx hb dX7_most_160 hl (k := 2) rfl (by decide +kernel) (by decide) rfl (fun ls hl => ?_)
    refine lv_goto (tgt := 43) hx hb dX7_most_163 (by decide) ?_
    refine lv_iload hx hb dX7_most_43 (lv_at hl 0 rfl) ?_
    refine lv_iload_n hx hb dX7_most_45 rfl (lv_at hl 7 rfl) ?_
    refine lv_icmp_gt (tgt := 166) hx hb dX7_most_46 (by decide) (fun _ => ?_) (fun q9 => absurd q9 (by decide +kernel))
    refine lv_iload_n hx hb dX7_most_166 rfl (lv_at hl 8 rfl) ?_
    refine lv_if_ne (tgt := 175) hx hb dX7_most_167 (by decide) (fun c_84 => ?_) (fun c_84 => ?_)
    · have c_84 : ¬ p2.toInt = 0 := k_eqF rfl (by decide +kernel) c_84
      refine lv_iload_n hx hb dX7_most_175 rfl (lv_at hl 8 rfl) ?_
      refine lv_iconst (v := 1) hx hb dX7_most_176 (by decide +kernel) ?_
      refine lv_icmp_ne (tgt := 187) hx hb dX7_most_177 (by decide) (fun c_85 => ?_) (fun c_85 => ?_)
      · have c_85 : ¬ p2.toInt = 1 := k_eqF rfl (by decide +kernel) c_85
        exfalso; omega
      · have c_85 : p2.toInt = 1 := k_eqT rfl (by decide +kernel) c_85
        refine lv_aload_n hx hb dX7_most_180 rfl (lv_at hl 6 rfl) ?_
        refine k_get (D := (dC, dI)) (ci := 7) (v := .int 0) (C := RX7) (T := TX7) (N := 92) hx hb hts hinX7 hown hK hP 4 rfl rfl 75 (by decide) w_0 rfl rfl dX7_most_181 ?_
        refine lv_goto (tgt := 203) hx hb dX7_most_184 (by decide) ?_
        exact k_ri B hP hD hS dX7_most_203 () [4, 0, 1, 2, 5, 3] rfl rfl rfl (Nat.le_of_ble_eq_true rfl) (Nat.le_of_ble_eq_true rfl) rfl
    · have c_84 : p2.toInt = 0 := k_eqT rfl (by decide +kernel) c_84
      exfalso; omega
  · obtain rfl : p1 = 7 := k_eqL (by decide +kernel) c_1
    refine lv_iload_n hx hb dX7_most_0 rfl (lv_at hl 1 rfl) ?_
    refine lv_iconst (v := 0) hx hb dX7_most_1 (by decide +kernel) ?_
    refine lv_bipush (v := 8) hx hb dX7_most_2 (by decide +kernel) ?_
    refine k_ci (wc := []) (wr := [(p0, .inr (7, oM p3 i7 j7)), ((p3 49), .inl (cI, 22, .inl (fun _ => 0))), ((p3 50), .inl (cI, 22, .inl (fun _ => 0))), ((p3 72), .inl (cI, 9216, .inl (fun _ => 0))), ((p3 14), .inl (cI, 2, .inl (fun _ => 0))), ((p3 18), .inl (cI, 2, .inl (fun _ => 0)))]) (fun hPc hDc hFc => va_runS (As := [.int 7, .int 0, .int 8]) (rest := []) ⟨hx, hb, hml, hown, hts⟩ (c_X7_is_v13 l dC dI cI cJ cZ cM H.size) (va_cwS 3 hts gX7_most_X7_is rfl rfl rfl (by decide +kernel) ⟨(Nat.le_of_ble_eq_true rfl), (Nat.le_of_ble_eq_true rfl)⟩) (k_pS hPc hDc hK hN hC hS hFc) rfl rfl hl.1 rfl (lv_room (Nat.le_of_ble_eq_true rfl)) dX7_most_4 ⟨(Nat.le_of_ble_eq_true rfl), (Nat.le_of_ble_eq_true rfl)⟩) hP hD hS hA [] [0, 1, 2, 3, 4, 5] rfl rfl rfl rfl (by decide) (fun _ => rfl) 0 0 rfl rfl (fun r_86 u_87 H locs hw hP hD hS => ?_)
    obtain rfl : r_86 = 1 := hw
    have hP : va_P (dC, dI) vwCl [(p0, .inr (7, oM p3 i7 j7)), ((p3 49), .inl (cI, 22, .inl (fun _ => 0))), ((p3 50), .inl (cI, 22, .inl (fun _ => 0))), ((p3 72), .inl (cI, 9216, .inl (fun _ => 0))), ((p3 14), .inl (cI, 2, .inl (fun _ => 0))), ((p3 18), .inl (cI, 2, .inl (fun _ => 0)))] H := hP
    have hD : va_D A [(p0, .inr (7, oM p3 i7 j7)), ((p3 49), .inl (cI, 22, .inl (fun _ => 0))), ((p3 50), .inl (cI, 22, .inl (fun _ => 0))), ((p3 72), .inl (cI, 9216, .inl (fun _ => 0))), ((p3 14), .inl (cI, 2, .inl (fun _ => 0))), ((p3 18), .inl (cI, 2, .inl (fun _ => 0)))] := hD
    refine lv_if_eq (tgt := 19) hx hb dX7_most_7 (by decide) (fun q9 => absurd q9 (by decide +kernel)) (fun _ => ?_)
    refine lv_iload_n hx hb dX7_most_10 rfl (lv_at hl 2 rfl) ?_
    refine lv_iconst (v := 0) hx hb dX7_most_11 (by decide +kernel) ?_
    refine lv_iconst (v := 3) hx hb dX7_most_12 (by decide +kernel) ?_
    refine k_ci (wc := []) (wr := [(p0, .inr (7, oM p3 i7 j7)), ((p3 49), .inl (cI, 22, .inl (fun _ => 0))), ((p3 50), .inl (cI, 22, .inl (fun _ => 0))), ((p3 72), .inl (cI, 9216, .inl (fun _ => 0))), ((p3 14), .inl (cI, 2, .inl (fun _ => 0))), ((p3 18), .inl (cI, 2, .inl (fun _ => 0)))]) (fun hPc hDc hFc => va_runS (As := [.int p2, .int 0, .int 3]) (rest := []) ⟨hx, hb, hml, hown, hts⟩ (c_X7_is_v21 l dC dI cI cJ cZ cM p2 (by omega) (by omega) H.size) (va_cwS 3 hts gX7_most_X7_is rfl rfl rfl (by decide +kernel) ⟨(Nat.le_of_ble_eq_true rfl), (Nat.le_of_ble_eq_true rfl)⟩) (k_pS hPc hDc hK hN hC hS hFc) rfl rfl hl.1 rfl (lv_room (Nat.le_of_ble_eq_true rfl)) dX7_most_13 ⟨(Nat.le_of_ble_eq_true rfl), (Nat.le_of_ble_eq_true rfl)⟩) hP hD hS hA [] [0, 1, 2, 3, 4, 5] rfl rfl rfl rfl (by decide) (fun _ => rfl) 0 0 rfl rfl (fun r_88 u_89 H locs hw hP hD hS => ?_)
    obtain rfl : r_88 = 1 := hw
    have hP : va_P (dC, dI) vwCl [(p0, .inr (7, oM p3 i7 j7)), ((p3 49), .inl (cI, 22, .inl (fun _ => 0))), ((p3 50), .inl (cI, 22, .inl (fun _ => 0))), ((p3 72), .inl (cI, 9216, .inl (fun _ => 0))), ((p3 14), .inl (cI, 2, .inl (fun _ => 0))), ((p3 18), .inl (cI, 2, .inl (fun _ => 0)))] H := hP
    have hD : va_D A [(p0, .inr (7, oM p3 i7 j7)), ((p3 49), .inl (cI, 22, .inl (fun _ => 0))), ((p3 50), .inl (cI, 22, .inl (fun _ => 0))), ((p3 72), .inl (cI, 9216, .inl (fun _ => 0))), ((p3 14), .inl (cI, 2, .inl (fun _ => 0))), ((p3 18), .inl (cI, 2, .inl (fun _ => 0)))] := hD
    refine lv_if_ne (tgt := 21) hx hb dX7_most_16 (by decide) (fun _ => ?_) (fun q9 => absurd q9 (by decide +kernel))
    refine lv_aload_n hx hb dX7_most_21 rfl (lv_at hl 0 rfl) ?_
    refine k_cv (wc := [(p0, .inr (7, oM p3 i7 j7)), ((p3 49), .inl (cI, 22, .inl (fun _ => 0))), ((p3 50), .inl (cI, 22, .inl (fun _ => 0))), ((p3 72), .inl (cI, 9216, .inl (fun _ => 0))), ((p3 14), .inl (cI, 2, .inl (fun _ => 0))), ((p3 18), .inl (cI, 2, .inl (fun _ => 0)))]) (wr := []) (fun hPc hDc hFc => va_runV (As := []) (rest := []) ⟨hx, hb, hml, hown, hts⟩ (c_X7_climbs_v0 l dC dI cI cJ cZ cM p0 p3 H.size) (cwV 0 hts gX7_most_X7_climbs rfl rfl rfl (by decide +kernel) ⟨(Nat.le_of_ble_eq_true rfl), (Nat.le_of_ble_eq_true rfl)⟩) (k_pV hPc hDc hK hN hC hS hFc hP (q0 := 0) (ci := 7) rfl rfl) rfl rfl hl.1 rfl (lv_room (Nat.le_of_ble_eq_true rfl)) dX7_most_22 ⟨(Nat.le_of_ble_eq_true rfl), (Nat.le_of_ble_eq_true rfl)⟩) hP hD hS hA [0, 1, 2, 3, 4, 5] [] rfl rfl rfl rfl (by decide) (fun _ => rfl) 0 0 rfl rfl (fun u_91 H locs hw hP hD hS => ?_)
    have hP : va_P (dC, dI) vwCl [(p0, .inr (7, oM p3 i7 j7)), ((p3 49), .inl (cI, 22, .inl (fun _ => 0))), ((p3 50), .inl (cI, 22, .inl (fun _ => 0))), ((p3 72), .inl (cI, 9216, .inl (upd (fun _ => (-1)) 0 0))), ((p3 14), .inl (cI, 2, .inl (fun _ => 0))), ((p3 18), .inl (cI, 2, .inl (fun _ => 0)))] H := hP
    have hD : va_D A [(p0, .inr (7, oM p3 i7 j7)), ((p3 49), .inl (cI, 22, .inl (fun _ => 0))), ((p3 50), .inl (cI, 22, .inl (fun _ => 0))), ((p3 72), .inl (cI, 9216, .inl (upd (fun _ => (-1)) 0 0))), ((p3 14), .inl (cI, 2, .inl (fun _ => 0))), ((p3 18), .inl (cI, 2, .inl (fun _ => 0)))] := hD
    refine lv_aload_n hx hb dX7_most_25 rfl (lv_at hl 0 rfl) ?_
    refine k_ci (wc := [(p0, .inr (7, oM p3 i7 j7)), ((p3 14), .inl (cI, 2, .inl (fun _ => 0)))]) (wr := [((p3 49), .inl (cI, 22, .inl (fun _ => 0))), ((p3 50), .inl (cI, 22, .inl (fun _ => 0))), ((p3 72), .inl (cI, 9216, .inl (upd (fun _ => (-1)) 0 0))), ((p3 18), .inl (cI, 2, .inl (fun _ => 0)))]) (fun hPc hDc hFc => va_runV (As := []) (rest := []) ⟨hx, hb, hml, hown, hts⟩ (c_X7_briefOnes_v2 l dC dI cI cJ cZ cM p0 p3 H.size) (cwV 0 hts gX7_most_X7_briefOnes rfl rfl rfl (by decide +kernel) ⟨(Nat.le_of_ble_eq_true rfl), (Nat.le_of_ble_eq_true rfl)⟩) (k_pV hPc hDc hK hN hC hS hFc hP (q0 := 0) (ci := 7) rfl rfl) rfl rfl hl.1 rfl (lv_room (Nat.le_of_ble_eq_true rfl)) dX7_most_26 ⟨(Nat.le_of_ble_eq_true rfl), (Nat.le_of_ble_eq_true rfl)⟩) hP hD hS hA [0, 4] [1, 2, 3, 5] rfl rfl rfl rfl (by decide) (fun _ => rfl) 0 0 rfl rfl (fun r_92 u_93 H locs hw hP hD hS => ?_)
    obtain rfl : r_92 = 0 := hw
    have hP : va_P (dC, dI) vwCl [((p3 49), .inl (cI, 22, .inl (fun _ => 0))), ((p3 50), .inl (cI, 22, .inl (fun _ => 0))), ((p3 72), .inl (cI, 9216, .inl (upd (fun _ => (-1)) 0 0))), ((p3 18), .inl (cI, 2, .inl (fun _ => 0))), (p0, .inr (7, oM p3 i7 j7)), ((p3 14), .inl (cI, 2, .inl (fun _ => 0)))] H := hP
    have hD : va_D A [((p3 49), .inl (cI, 22, .inl (fun _ => 0))), ((p3 50), .inl (cI, 22, .inl (fun _ => 0))), ((p3 72), .inl (cI, 9216, .inl (upd (fun _ => (-1)) 0 0))), ((p3 18), .inl (cI, 2, .inl (fun _ => 0))), (p0, .inr (7, oM p3 i7 j7)), ((p3 14), .inl (cI, 2, .inl (fun _ => 0)))] := hD
    refine lv_iconst (v := (-1)) hx hb dX7_most_29 (by decide +kernel) ?_
    refine lv_ixor hx hb dX7_most_30 ?_
    refine k_int (v := (-1)) (by decide +kernel) ?_
    refine lv_istore_n (lv' := [(3, .int (-1)), (0, .ref p0), (1, .int 7), (2, .int p2)]) hx hb dX7_most_31 rfl hl (by decide) rfl (fun ls hl => ?_)
    refine lv_aload_n hx hb dX7_most_32 rfl (lv_at hl 1 rfl) ?_
    refine lv_iconst (v := (-1)) hx hb dX7_most_33 (by decide +kernel) ?_
    refine k_put (D := (dC, dI)) (ci := 7) (v := .int (-1)) (C := RX7) (T := TX7) (N := 92) (ws' := [((p3 49), .inl (cI, 22, .inl (fun _ => 0))), ((p3 50), .inl (cI, 22, .inl (fun _ => 0))), ((p3 72), .inl (cI, 9216, .inl (upd (fun _ => (-1)) 0 0))), ((p3 18), .inl (cI, 2, .inl (fun _ => 0))), (p0, .inr (7, oM p3 (upd i7 75 (-1)) j7)), ((p3 14), .inl (cI, 2, .inl (fun _ => 0)))]) hx hb hts hinX7 tyX7 tyX7_ok nmX7 hown hK hP hD hS 4 rfl rfl 75 (by decide) w_0 rfl rfl rfl rfl (Nat.le_of_ble_eq_true rfl) rfl dX7_most_34 (fun H locs hP hD hS => ?_)
    refine lv_iconst (v := (-1)) hx hb dX7_most_37 (by decide +kernel) ?_
    refine lv_istore (lv' := [(4, .int (-1)), (3, .int (-1)), (0, .ref p0), (1, .int 7), (2, .int p2)]) hx hb dX7_most_38 hl (by decide) rfl (fun ls hl => ?_)
    refine lv_iconst (v := 0) hx hb dX7_most_40 (by decide +kernel) ?_
    refine lv_istore (lv' := [(5, .int 0), (4, .int (-1)), (3, .int (-1)), (0, .ref p0), (1, .int 7), (2, .int p2)]) hx hb dX7_most_41 hl (by decide) rfl (fun ls hl => ?_)
    refine lv_iload hx hb dX7_most_43 (lv_at hl 0 rfl) ?_
    refine lv_iload_n hx hb dX7_most_45 rfl (lv_at hl 4 rfl) ?_
    refine lv_icmp_gt (tgt := 166) hx hb dX7_most_46 (by decide) (fun q9 => absurd q9 (by decide +kernel)) (fun _ => ?_)
    refine lv_iconst (v := 0) hx hb dX7_most_49 (by decide +kernel) ?_
    refine lv_istore (lv' := [(6, .int 0), (5, .int 0), (4, .int (-1)), (3, .int (-1)), (0, .ref p0), (1, .int 7), (2, .int p2)]) hx hb dX7_most_50 hl (by decide) rfl (fun ls hl => ?_)
    refine lv_iload hx hb dX7_most_52 (lv_at hl 0 rfl) ?_
    refine lv_iconst (v := 1) hx hb dX7_most_54 (by decide +kernel) ?_
    refine lv_aload_n hx hb dX7_most_55 rfl (lv_at hl 4 rfl) ?_
    refine k_get (D := (dC, dI)) (ci := 7) (v := .ref (p3 14)) (C := RX7) (T := TX7) (N := 92) hx hb hts hinX7 hown hK hP 4 rfl rfl 14 (by decide) w_1 rfl rfl dX7_most_56 ?_
    refine lv_aload_n hx hb dX7_most_59 rfl (lv_at hl 4 rfl) ?_
    refine k_get (D := (dC, dI)) (ci := 7) (v := .int 0) (C := RX7) (T := TX7) (N := 92) hx hb hts hinX7 hown hK hP 4 rfl rfl 13 (by decide) w_2 rfl rfl dX7_most_60 ?_
    refine k_iald (v := 0) hx hb hK hP 5 0 0 rfl rfl rfl (Nat.le_of_ble_eq_true rfl) (Nat.le_of_ble_eq_true rfl) rfl dX7_most_63 ?_
    refine lv_ishl hx hb dX7_most_64 ?_
    refine k_int (v := 1) (by decide +kernel) ?_
    refine lv_icmp_ge (tgt := 160) hx hb dX7_most_65 (by decide) (fun q9 => absurd q9 (by decide +kernel)) (fun _ => ?_)
    refine lv_aload_n hx hb dX7_most_68 rfl (lv_at hl 4 rfl) ?_
    refine k_get (D := (dC, dI)) (ci := 7) (v := .ref (p3 72)) (C := RX7) (T := TX7) (N := 92) hx hb hts hinX7 hown hK hP 4 rfl rfl 72 (by decide) w_3 rfl rfl dX7_most_69 ?_
    refine lv_sipush (v := 1024) hx hb dX7_most_72 (by decide +kernel) ?_
    refine lv_iload hx hb dX7_most_75 (lv_at hl 1 rfl) ?_
    refine lv_imul hx hb dX7_most_77 ?_
    refine k_int (v := 0) (by decide +kernel) ?_
    refine lv_iload hx hb dX7_most_78 (lv_at hl 0 rfl) ?_
    refine lv_iadd hx hb dX7_most_80 ?_
    refine k_int (v := 0) (by decide +kernel) ?_
    refine k_iald (v := 0) hx hb hK hP 2 0 0 rfl rfl rfl (Nat.le_of_ble_eq_true rfl) (Nat.le_of_ble_eq_true rfl) rfl dX7_most_81 ?_
    refine lv_istore (lv' := [(7, .int 0), (6, .int 0), (5, .int 0), (4, .int (-1)), (3, .int (-1)), (0, .ref p0), (1, .int 7), (2, .int p2)]) hx hb dX7_most_82 hl (by decide) rfl (fun ls hl => ?_)
    refine lv_iload hx hb dX7_most_84 (lv_at hl 0 rfl) ?_
    refine lv_iconst (v := (-1)) hx hb dX7_most_86 (by decide +kernel) ?_
    refine lv_icmp_ne (tgt := 93) hx hb dX7_most_87 (by decide) (fun _ => ?_) (fun q9 => absurd q9 (by decide +kernel))
    refine lv_aload_n hx hb dX7_most_93 rfl (lv_at hl 5 rfl) ?_
    refine lv_iload hx hb dX7_most_94 (lv_at hl 1 rfl) ?_
    refine lv_iload_n hx hb dX7_most_96 rfl (lv_at hl 4 rfl) ?_
    refine lv_iand hx hb dX7_most_97 ?_
    refine k_int (v := 0) (by decide +kernel) ?_
    refine k_ci (wc := [(p0, .inr (7, oM p3 (upd i7 75 (-1)) j7)), ((p3 14), .inl (cI, 2, .inl (fun _ => 0)))]) (wr := [((p3 49), .inl (cI, 22, .inl (fun _ => 0))), ((p3 50), .inl (cI, 22, .inl (fun _ => 0))), ((p3 72), .inl (cI, 9216, .inl (upd (fun _ => (-1)) 0 0))), ((p3 18), .inl (cI, 2, .inl (fun _ => 0)))]) (fun hPc hDc hFc => va_runV (As := [.int 0]) (rest := []) ⟨hx, hb, hml, hown, hts⟩ (c_X7_worthOf_v1 l dC dI cI cJ cZ cM p0 p3 H.size) (cwV 1 hts gX7_most_X7_worthOf rfl rfl rfl (by decide +kernel) ⟨(Nat.le_of_ble_eq_true rfl), (Nat.le_of_ble_eq_true rfl)⟩) (k_pV hPc hDc hK hN hC hS hFc hP (q0 := 4) (ci := 7) rfl rfl) rfl rfl hl.1 rfl (lv_room (Nat.le_of_ble_eq_true rfl)) dX7_most_98 ⟨(Nat.le_of_ble_eq_true rfl), (Nat.le_of_ble_eq_true rfl)⟩) hP hD hS hA [4, 5] [0, 1, 2, 3] rfl rfl rfl rfl (by decide) (fun _ => rfl) 0 0 rfl rfl (fun r_94 u_95 H locs hw hP hD hS => ?_)
    obtain rfl : r_94 = 0 := hw
    have hP : va_P (dC, dI) vwCl [((p3 49), .inl (cI, 22, .inl (fun _ => 0))), ((p3 50), .inl (cI, 22, .inl (fun _ => 0))), ((p3 72), .inl (cI, 9216, .inl (upd (fun _ => (-1)) 0 0))), ((p3 18), .inl (cI, 2, .inl (fun _ => 0))), (p0, .inr (7, oM p3 (upd i7 75 (-1)) j7)), ((p3 14), .inl (cI, 2, .inl (fun _ => 0)))] H := hP
    have hD : va_D A [((p3 49), .inl (cI, 22, .inl (fun _ => 0))), ((p3 50), .inl (cI, 22, .inl (fun _ => 0))), ((p3 72), .inl (cI, 9216, .inl (upd (fun _ => (-1)) 0 0))), ((p3 18), .inl (cI, 2, .inl (fun _ => 0))), (p0, .inr (7, oM p3 (upd i7 75 (-1)) j7)), ((p3 14), .inl (cI, 2, .inl (fun _ => 0)))] := hD
    refine lv_istore (lv' := [(8, .int 0), (7, .int 0), (6, .int 0), (5, .int 0), (4, .int (-1)), (3, .int (-1)), (0, .ref p0), (1, .int 7), (2, .int p2)]) hx hb dX7_most_101 hl (by decide) rfl (fun ls hl => ?_)
    refine lv_iload hx hb dX7_most_103 (lv_at hl 0 rfl) ?_
    refine lv_iload hx hb dX7_most_105 (lv_at hl 4 rfl) ?_
    refine lv_icmp_lt (tgt := 154) hx hb dX7_most_107 (by decide) (fun q9 => absurd q9 (by decide +kernel)) (fun _ => ?_)
    refine lv_iload hx hb dX7_most_110 (lv_at hl 0 rfl) ?_
    refine lv_iload hx hb dX7_most_112 (lv_at hl 4 rfl) ?_
    refine lv_icmp_ne (tgt := 138) hx hb dX7_most_114 (by decide) (fun _ => ?_) (fun q9 => absurd q9 (by decide +kernel))
    refine lv_iload hx hb dX7_most_138 (lv_at hl 0 rfl) ?_
    refine lv_istore (lv' := [(4, .int 0), (8, .int 0), (7, .int 0), (6, .int 0), (5, .int 0), (3, .int (-1)), (0, .ref p0), (1, .int 7), (2, .int p2)]) hx hb dX7_most_140 hl (by decide) rfl (fun ls hl => ?_)
    refine lv_aload_n hx hb dX7_most_142 rfl (lv_at hl 6 rfl) ?_
    refine lv_iload hx hb dX7_most_143 (lv_at hl 4 rfl) ?_
    refine k_put (D := (dC, dI)) (ci := 7) (v := .int 0) (C := RX7) (T := TX7) (N := 92) (ws' := [((p3 49), .inl (cI, 22, .inl (fun _ => 0))), ((p3 50), .inl (cI, 22, .inl (fun _ => 0))), ((p3 72), .inl (cI, 9216, .inl (upd (fun _ => (-1)) 0 0))), ((p3 18), .inl (cI, 2, .inl (fun _ => 0))), (p0, .inr (7, oM p3 (upd i7 75 0) j7)), ((p3 14), .inl (cI, 2, .inl (fun _ => 0)))]) hx hb hts hinX7 tyX7 tyX7_ok nmX7 hown hK hP hD hS 4 rfl rfl 75 (by decide) w_0 rfl rfl rfl rfl (Nat.le_of_ble_eq_true rfl) rfl dX7_most_145 (fun H locs hP hD hS => ?_)
    refine lv_aload_n hx hb dX7_most_148 rfl (lv_at hl 6 rfl) ?_
    refine lv_iload hx hb dX7_most_149 (lv_at hl 3 rfl) ?_
    refine k_put (D := (dC, dI)) (ci := 7) (v := .int 0) (C := RX7) (T := TX7) (N := 92) (ws' := [((p3 49), .inl (cI, 22, .inl (fun _ => 0))), ((p3 50), .inl (cI, 22, .inl (fun _ => 0))), ((p3 72), .inl (cI, 9216, .inl (upd (fun _ => (-1)) 0 0))), ((p3 18), .inl (cI, 2, .inl (fun _ => 0))), (p0, .inr (7, oM p3 (upd (upd i7 75 0) 76 0) j7)), ((p3 14), .inl (cI, 2, .inl (fun _ => 0)))]) hx hb hts hinX7 tyX7 tyX7_ok nmX7 hown hK hP hD hS 4 rfl rfl 76 (by decide) w_4 rfl rfl rfl rfl (Nat.le_of_ble_eq_true rfl) rfl dX7_most_151 (fun H locs hP hD hS => ?_)
    refine lv_iinc (v := 1) (lv' := [(6, .int 1), (4, .int 0), (8, .int 0), (7, .int 0), (5, .int 0), (3, .int (-1)), (0, .ref p0), (1, .int 7), (2, .int p2)]) hx hb dX7_most_154 hl (k := 3) rfl (by decide +kernel) (by decide) rfl (fun ls hl => ?_)
    refine lv_goto (tgt := 52) hx hb dX7_most_157 (by decide) ?_
    refine lv_iload hx hb dX7_most_52 (lv_at hl 0 rfl) ?_
    refine lv_iconst (v := 1) hx hb dX7_most_54 (by decide +kernel) ?_
    refine lv_aload_n hx hb dX7_most_55 rfl (lv_at hl 6 rfl) ?_
    refine k_get (D := (dC, dI)) (ci := 7) (v := .ref (p3 14)) (C := RX7) (T := TX7) (N := 92) hx hb hts hinX7 hown hK hP 4 rfl rfl 14 (by decide) w_1 rfl rfl dX7_most_56 ?_
    refine lv_aload_n hx hb dX7_most_59 rfl (lv_at hl 6 rfl) ?_
    refine k_get (D := (dC, dI)) (ci := 7) (v := .int 0) (C := RX7) (T := TX7) (N := 92) hx hb hts hinX7 hown hK hP 4 rfl rfl 13 (by decide) w_2 rfl rfl dX7_most_60 ?_
    refine k_iald (v := 0) hx hb hK hP 5 0 0 rfl rfl rfl (Nat.le_of_ble_eq_true rfl) (Nat.le_of_ble_eq_true rfl) rfl dX7_most_63 ?_
    refine lv_ishl hx hb dX7_most_64 ?_
    refine k_int (v := 1) (by decide +kernel) ?_
    refine lv_icmp_ge (tgt := 160) hx hb dX7_most_65 (by decide) (fun _ => ?_) (fun q9 => absurd q9 (by decide +kernel))
    refine lv_iinc (v := 1) (lv' := [(5, .int 1), (6, .int 1), (4, .int 0), (8, .int 0), (7, .int 0), (3, .int (-1)), (0, .ref p0), (1, .int 7), (2, .int p2)]) hx hb dX7_most_160 hl (k := 4) rfl (by decide +kernel) (by decide) rfl (fun ls hl => ?_)
    refine lv_goto (tgt := 43) hx hb dX7_most_163 (by decide) ?_
    refine lv_iload hx hb dX7_most_43 (lv_at hl 0 rfl) ?_
    refine lv_iload_n hx hb dX7_most_45 rfl (lv_at hl 7 rfl) ?_
    refine lv_icmp_gt (tgt := 166) hx hb dX7_most_46 (by decide) (fun q9 => absurd q9 (by decide +kernel)) (fun _ => ?_)
    refine lv_iconst (v := 0) hx hb dX7_most_49 (by decide +kernel) ?_
    refine lv_istore (lv' := [(6, .int 0), (5, .int 1), (4, .int 0), (8, .int 0), (7, .int 0), (3, .int (-1)), (0, .ref p0), (1, .int 7), (2, .int p2)]) hx hb dX7_most_50 hl (by decide) rfl (fun ls hl => ?_)
    refine lv_iload hx hb dX7_most_52 (lv_at hl 0 rfl) ?_
    refine lv_iconst (v := 1) hx hb dX7_most_54 (by decide +kernel) ?_
    refine lv_aload_n hx hb dX7_most_55 rfl (lv_at hl 6 rfl) ?_
    refine k_get (D := (dC, dI)) (ci := 7) (v := .ref (p3 14)) (C := RX7) (T := TX7) (N := 92) hx hb hts hinX7 hown hK hP 4 rfl rfl 14 (by decide) w_1 rfl rfl dX7_most_56 ?_
    refine lv_aload_n hx hb dX7_most_59 rfl (lv_at hl 6 rfl) ?_
    refine k_get (D := (dC, dI)) (ci := 7) (v := .int 0) (C := RX7) (T := TX7) (N := 92) hx hb hts hinX7 hown hK hP 4 rfl rfl 13 (by decide) w_2 rfl rfl dX7_most_60 ?_
    refine k_iald (v := 0) hx hb hK hP 5 0 0 rfl rfl rfl (Nat.le_of_ble_eq_true rfl) (Nat.le_of_ble_eq_true rfl) rfl dX7_most_63 ?_
    refine lv_ishl hx hb dX7_most_64 ?_
    refine k_int (v := 1) (by decide +kernel) ?_
    refine lv_icmp_ge (tgt := 160) hx hb dX7_most_65 (by decide) (fun q9 => absurd q9 (by decide +kernel)) (fun _ => ?_)
    refine lv_aload_n hx hb dX7_most_68 rfl (lv_at hl 6 rfl) ?_
    refine k_get (D := (dC, dI)) (ci := 7) (v := .ref (p3 72)) (C := RX7) (T := TX7) (N := 92) hx hb hts hinX7 hown hK hP 4 rfl rfl 72 (by decide) w_3 rfl rfl dX7_most_69 ?_
    refine lv_sipush (v := 1024) hx hb dX7_most_72 (by decide +kernel) ?_
    refine lv_iload hx hb dX7_most_75 (lv_at hl 1 rfl) ?_
    refine lv_imul hx hb dX7_most_77 ?_
    refine k_int (v := 1024) (by decide +kernel) ?_
    refine lv_iload hx hb dX7_most_78 (lv_at hl 0 rfl) ?_
    refine lv_iadd hx hb dX7_most_80 ?_
    refine k_int (v := 1024) (by decide +kernel) ?_
    refine k_iald (v := (-1)) hx hb hK hP 2 0 1024 rfl rfl rfl (Nat.le_of_ble_eq_true rfl) (Nat.le_of_ble_eq_true rfl) rfl dX7_most_81 ?_
    refine lv_istore (lv' := [(7, .int (-1)), (6, .int 0), (5, .int 1), (4, .int 0), (8, .int 0), (3, .int (-1)), (0, .ref p0), (1, .int 7), (2, .int p2)]) hx hb dX7_most_82 hl (by decide) rfl (fun ls hl => ?_)
    refine lv_iload hx hb dX7_most_84 (lv_at hl 0 rfl) ?_
    refine lv_iconst (v := (-1)) hx hb dX7_most_86 (by decide +kernel) ?_
    refine lv_icmp_ne (tgt := 93) hx hb dX7_most_87 (by decide) (fun q9 => absurd q9 (by decide +kernel)) (fun _ => ?_)
    refine lv_goto (tgt := 154) hx hb dX7_most_90 (by decide) ?_
    refine lv_iinc (v := 1) (lv' := [(6, .int 1), (7, .int (-1)), (5, .int 1), (4, .int 0), (8, .int 0), (3, .int (-1)), (0, .ref p0), (1, .int 7), (2, .int p2)]) hx hb dX7_most_154 hl (k := 1) rfl (by decide +kernel) (by decide) rfl (fun ls hl => ?_)
    refine lv_goto (tgt := 52) hx hb dX7_most_157 (by decide) ?_
    refine lv_iload hx hb dX7_most_52 (lv_at hl 0 rfl) ?_
    refine lv_iconst (v := 1) hx hb dX7_most_54 (by decide +kernel) ?_
    refine lv_aload_n hx hb dX7_most_55 rfl (lv_at hl 6 rfl) ?_
    refine k_get (D := (dC, dI)) (ci := 7) (v := .ref (p3 14)) (C := RX7) (T := TX7) (N := 92) hx hb hts hinX7 hown hK hP 4 rfl rfl 14 (by decide) w_1 rfl rfl dX7_most_56 ?_
    refine lv_aload_n hx hb dX7_most_59 rfl (lv_at hl 6 rfl) ?_
    refine k_get (D := (dC, dI)) (ci := 7) (v := .int 0) (C := RX7) (T := TX7) (N := 92) hx hb hts hinX7 hown hK hP 4 rfl rfl 13 (by decide) w_2 rfl rfl dX7_most_60 ?_
    refine k_iald (v := 0) hx hb hK hP 5 0 0 rfl rfl rfl (Nat.le_of_ble_eq_true rfl) (Nat.le_of_ble_eq_true rfl) rfl dX7_most_63 ?_
    refine lv_ishl hx hb dX7_most_64 ?_
    refine k_int (v := 1) (by decide +kernel) ?_
    refine lv_icmp_ge (tgt := 160) hx hb dX7_most_65 (by decide) (fun _ => ?_) (fun q9 => absurd q9 (by decide +kernel))
    refine lv_iinc (v := 2) (lv' := [(5, .int 2), (6, .int 1), (7, .int (-1)), (4, .int 0), (8, .int 0), (3, .int (-1)), (0, .ref p0), (1, .int 7), (2, .int p2)]) hx hb dX7_most_160 hl (k := 2) rfl (by decide +kernel) (by decide) rfl (fun ls hl => ?_)
    refine lv_goto (tgt := 43) hx hb dX7_most_163 (by decide) ?_
    refine lv_iload hx hb dX7_most_43 (lv_at hl 0 rfl) ?_
    refine lv_iload_n hx hb dX7_most_45 rfl (lv_at hl 7 rfl) ?_
    refine lv_icmp_gt (tgt := 166) hx hb dX7_most_46 (by decide) (fun q9 => absurd q9 (by decide +kernel)) (fun _ => ?_)
    refine lv_iconst (v := 0) hx hb dX7_most_49 (by decide +kernel) ?_
    refine lv_istore (lv' := [(6, .int 0), (5, .int 2), (7, .int (-1)), (4, .int 0), (8, .int 0), (3, .int (-1)), (0, .ref p0), (1, .int 7), (2, .int p2)]) hx hb dX7_most_50 hl (by decide) rfl (fun ls hl => ?_)
    refine lv_iload hx hb dX7_most_52 (lv_at hl 0 rfl) ?_
    refine lv_iconst (v := 1) hx hb dX7_most_54 (by decide +kernel) ?_
    refine lv_aload_n hx hb dX7_most_55 rfl (lv_at hl 6 rfl) ?_
    refine k_get (D := (dC, dI)) (ci := 7) (v := .ref (p3 14)) (C := RX7) (T := TX7) (N := 92) hx hb hts hinX7 hown hK hP 4 rfl rfl 14 (by decide) w_1 rfl rfl dX7_most_56 ?_
    refine lv_aload_n hx hb dX7_most_59 rfl (lv_at hl 6 rfl) ?_
    refine k_get (D := (dC, dI)) (ci := 7) (v := .int 0) (C := RX7) (T := TX7) (N := 92) hx hb hts hinX7 hown hK hP 4 rfl rfl 13 (by decide) w_2 rfl rfl dX7_most_60 ?_
    refine k_iald (v := 0) hx hb hK hP 5 0 0 rfl rfl rfl (Nat.le_of_ble_eq_true rfl) (Nat.le_of_ble_eq_true rfl) rfl dX7_most_63 ?_
    refine lv_ishl hx hb dX7_most_64 ?_
    refine k_int (v := 1) (by decide +kernel) ?_
    refine lv_icmp_ge (tgt := 160) hx hb dX7_most_65 (by decide) (fun q9 => absurd q9 (by decide +kernel)) (fun _ => ?_)
    refine lv_aload_n hx hb dX7_most_68 rfl (lv_at hl 6 rfl) ?_
    refine k_get (D := (dC, dI)) (ci := 7) (v := .ref (p3 72)) (C := RX7) (T := TX7) (N := 92) hx hb hts hinX7 hown hK hP 4 rfl rfl 72 (by decide) w_3 rfl rfl dX7_most_69 ?_
    refine lv_sipush (v := 1024) hx hb dX7_most_72 (by decide +kernel) ?_
    refine lv_iload hx hb dX7_most_75 (lv_at hl 1 rfl) ?_
    refine lv_imul hx hb dX7_most_77 ?_
    refine k_int (v := 2048) (by decide +kernel) ?_
    refine lv_iload hx hb dX7_most_78 (lv_at hl 0 rfl) ?_
    refine lv_iadd hx hb dX7_most_80 ?_
    refine k_int (v := 2048) (by decide +kernel) ?_
    refine k_iald (v := (-1)) hx hb hK hP 2 0 2048 rfl rfl rfl (Nat.le_of_ble_eq_true rfl) (Nat.le_of_ble_eq_true rfl) rfl dX7_most_81 ?_
    refine lv_istore (lv' := [(7, .int (-1)), (6, .int 0), (5, .int 2), (4, .int 0), (8, .int 0), (3, .int (-1)), (0, .ref p0), (1, .int 7), (2, .int p2)]) hx hb dX7_most_82 hl (by decide) rfl (fun ls hl => ?_)
    refine lv_iload hx hb dX7_most_84 (lv_at hl 0 rfl) ?_
    refine lv_iconst (v := (-1)) hx hb dX7_most_86 (by decide +kernel) ?_
    refine lv_icmp_ne (tgt := 93) hx hb dX7_most_87 (by decide) (fun q9 => absurd q9 (by decide +kernel)) (fun _ => ?_)
    refine lv_goto (tgt := 154) hx hb dX7_most_90 (by decide) ?_
    refine lv_iinc (v := 1) (lv' := [(6, .int 1), (7, .int (-1)), (5, .int 2), (4, .int 0), (8, .int 0), (3, .int (-1)), (0, .ref p0), (1, .int 7), (2, .int p2)]) hx hb dX7_most_154 hl (k := 1) rfl (by decide +kernel) (by decide) rfl (fun ls hl => ?_)
    refine lv_goto (tgt := 52) hx hb dX7_most_157 (by decide) ?_
    refine lv_iload hx hb dX7_most_52 (lv_at hl 0 rfl) ?_
    refine lv_iconst (v := 1) hx hb dX7_most_54 (by decide +kernel) ?_
    refine lv_aload_n hx hb dX7_most_55 rfl (lv_at hl 6 rfl) ?_
    refine k_get (D := (dC, dI)) (ci := 7) (v := .ref (p3 14)) (C := RX7) (T := TX7) (N := 92) hx hb hts hinX7 hown hK hP 4 rfl rfl 14 (by decide) w_1 rfl rfl dX7_most_56 ?_
    refine lv_aload_n hx hb dX7_most_59 rfl (lv_at hl 6 rfl) ?_
    refine k_get (D := (dC, dI)) (ci := 7) (v := .int 0) (C := RX7) (T := TX7) (N := 92) hx hb hts hinX7 hown hK hP 4 rfl rfl 13 (by decide) w_2 rfl rfl dX7_most_60 ?_
    refine k_iald (v := 0) hx hb hK hP 5 0 0 rfl rfl rfl (Nat.le_of_ble_eq_true rfl) (Nat.le_of_ble_eq_true rfl) rfl dX7_most_63 ?_
    refine lv_ishl hx hb dX7_most_64 ?_
    refine k_int (v := 1) (by decide +kernel) ?_
    refine lv_icmp_ge (tgt := 160) hx hb dX7_most_65 (by decide) (fun _ => ?_) (fun q9 => absurd q9 (by decide +kernel))
    refine lv_iinc (v := 3) (lv' := [(5, .int 3), (6, .int 1), (7, .int (-1)), (4, .int 0), (8, .int 0), (3, .int (-1)), (0, .ref p0), (1, .int 7), (2, .int p2)]) hx hb dX7_most_160 hl (k := 2) rfl (by decide +kernel) (by decide) rfl (fun ls hl => ?_)
    refine lv_goto (tgt := 43) hx hb dX7_most_163 (by decide) ?_
    refine lv_iload hx hb dX7_most_43 (lv_at hl 0 rfl) ?_
    refine lv_iload_n hx hb dX7_most_45 rfl (lv_at hl 7 rfl) ?_
    refine lv_icmp_gt (tgt := 166) hx hb dX7_most_46 (by decide) (fun q9 => absurd q9 (by decide +kernel)) (fun _ => ?_)
    refine lv_iconst (v := 0) hx hb dX7_most_49 (by decide +kernel) ?_
    refine lv_istore (lv' := [(6, .int 0), (5, .int 3), (7, .int (-1)), (4, .int 0), (8, .int 0), (3, .int (-1)), (0, .ref p0), (1, .int 7), (2, .int p2)]) hx hb dX7_most_50 hl (by decide) rfl (fun ls hl => ?_)
    refine lv_iload hx hb dX7_most_52 (lv_at hl 0 rfl) ?_
    refine lv_iconst (v := 1) hx hb dX7_most_54 (by decide +kernel) ?_
    refine lv_aload_n hx hb dX7_most_55 rfl (lv_at hl 6 rfl) ?_
    refine k_get (D := (dC, dI)) (ci := 7) (v := .ref (p3 14)) (C := RX7) (T := TX7) (N := 92) hx hb hts hinX7 hown hK hP 4 rfl rfl 14 (by decide) w_1 rfl rfl dX7_most_56 ?_
    refine lv_aload_n hx hb dX7_most_59 rfl (lv_at hl 6 rfl) ?_
    refine k_get (D := (dC, dI)) (ci := 7) (v := .int 0) (C := RX7) (T := TX7) (N := 92) hx hb hts hinX7 hown hK hP 4 rfl rfl 13 (by decide) w_2 rfl rfl dX7_most_60 ?_
    refine k_iald (v := 0) hx hb hK hP 5 0 0 rfl rfl rfl (Nat.le_of_ble_eq_true rfl) (Nat.le_of_ble_eq_true rfl) rfl dX7_most_63 ?_
    refine lv_ishl hx hb dX7_most_64 ?_
    refine k_int (v := 1) (by decide +kernel) ?_
    refine lv_icmp_ge (tgt := 160) hx hb dX7_most_65 (by decide) (fun q9 => absurd q9 (by decide +kernel)) (fun _ => ?_)
    refine lv_aload_n hx hb dX7_most_68 rfl (lv_at hl 6 rfl) ?_
    refine k_get (D := (dC, dI)) (ci := 7) (v := .ref (p3 72)) (C := RX7) (T := TX7) (N := 92) hx hb hts hinX7 hown hK hP 4 rfl rfl 72 (by decide) w_3 rfl rfl dX7_most_69 ?_
    refine lv_sipush (v := 1024) hx hb dX7_most_72 (by decide +kernel) ?_
    refine lv_iload hx hb dX7_most_75 (lv_at hl 1 rfl) ?_
    refine lv_imul hx hb dX7_most_77 ?_
    refine k_int (v := 3072) (by decide +kernel) ?_
    refine lv_iload hx hb dX7_most_78 (lv_at hl 0 rfl) ?_
    refine lv_iadd hx hb dX7_most_80 ?_
    refine k_int (v := 3072) (by decide +kernel) ?_
    refine k_iald (v := (-1)) hx hb hK hP 2 0 3072 rfl rfl rfl (Nat.le_of_ble_eq_true rfl) (Nat.le_of_ble_eq_true rfl) rfl dX7_most_81 ?_
    refine lv_istore (lv' := [(7, .int (-1)), (6, .int 0), (5, .int 3), (4, .int 0), (8, .int 0), (3, .int (-1)), (0, .ref p0), (1, .int 7), (2, .int p2)]) hx hb dX7_most_82 hl (by decide) rfl (fun ls hl => ?_)
    refine lv_iload hx hb dX7_most_84 (lv_at hl 0 rfl) ?_
    refine lv_iconst (v := (-1)) hx hb dX7_most_86 (by decide +kernel) ?_
    refine lv_icmp_ne (tgt := 93) hx hb dX7_most_87 (by decide) (fun q9 => absurd q9 (by decide +kernel)) (fun _ => ?_)
    refine lv_goto (tgt := 154) hx hb dX7_most_90 (by decide) ?_
    refine lv_iinc (v := 1) (lv' := [(6, .int 1), (7, .int (-1)), (5, .int 3), (4, .int 0), (8, .int 0), (3, .int (-1)), (0, .ref p0), (1, .int 7), (2, .int p2)]) hx hb dX7_most_154 hl (k := 1) rfl (by decide +kernel) (by decide) rfl (fun ls hl => ?_)
    refine lv_goto (tgt := 52) hx hb dX7_most_157 (by decide) ?_
    refine lv_iload hx hb dX7_most_52 (lv_at hl 0 rfl) ?_
    refine lv_iconst (v := 1) hx hb dX7_most_54 (by decide +kernel) ?_
    refine lv_aload_n hx hb dX7_most_55 rfl (lv_at hl 6 rfl) ?_
    refine k_get (D := (dC, dI)) (ci := 7) (v := .ref (p3 14)) (C := RX7) (T := TX7) (N := 92) hx hb hts hinX7 hown hK hP 4 rfl rfl 14 (by decide) w_1 rfl rfl dX7_most_56 ?_
    refine lv_aload_n hx hb dX7_most_59 rfl (lv_at hl 6 rfl) ?_
    refine k_get (D := (dC, dI)) (ci := 7) (v := .int 0) (C := RX7) (T := TX7) (N := 92) hx hb hts hinX7 hown hK hP 4 rfl rfl 13 (by decide) w_2 rfl rfl dX7_most_60 ?_
    refine k_iald (v := 0) hx hb hK hP 5 0 0 rfl rfl rfl (Nat.le_of_ble_eq_true rfl) (Nat.le_of_ble_eq_true rfl) rfl dX7_most_63 ?_
    refine lv_ishl hx hb dX7_most_64 ?_
    refine k_int (v := 1) (by decide +kernel) ?_
    refine lv_icmp_ge (tgt := 160) hx hb dX7_most_65 (by decide) (fun _ => ?_) (fun q9 => absurd q9 (by decide +kernel))
    refine lv_iinc (v := 4) (lv' := [(5, .int 4), (6, .int 1), (7, .int (-1)), (4, .int 0), (8, .int 0), (3, .int (-1)), (0, .ref p0), (1, .int 7), (2, .int p2)]) hx hb dX7_most_160 hl (k := 2) rfl (by decide +kernel) (by decide) rfl (fun ls hl => ?_)
    refine lv_goto (tgt := 43) hx hb dX7_most_163 (by decide) ?_
    refine lv_iload hx hb dX7_most_43 (lv_at hl 0 rfl) ?_
    refine lv_iload_n hx hb dX7_most_45 rfl (lv_at hl 7 rfl) ?_
    refine lv_icmp_gt (tgt := 166) hx hb dX7_most_46 (by decide) (fun q9 => absurd q9 (by decide +kernel)) (fun _ => ?_)
    refine lv_iconst (v := 0) hx hb dX7_most_49 (by decide +kernel) ?_
    refine lv_istore (lv' := [(6, .int 0), (5, .int 4), (7, .int (-1)), (4, .int 0), (8, .int 0), (3, .int (-1)), (0, .ref p0), (1, .int 7), (2, .int p2)]) hx hb dX7_most_50 hl (by decide) rfl (fun ls hl => ?_)
    refine lv_iload hx hb dX7_most_52 (lv_at hl 0 rfl) ?_
    refine lv_iconst (v := 1) hx hb dX7_most_54 (by decide +kernel) ?_
    refine lv_aload_n hx hb dX7_most_55 rfl (lv_at hl 6 rfl) ?_
    refine k_get (D := (dC, dI)) (ci := 7) (v := .ref (p3 14)) (C := RX7) (T := TX7) (N := 92) hx hb hts hinX7 hown hK hP 4 rfl rfl 14 (by decide) w_1 rfl rfl dX7_most_56 ?_
    refine lv_aload_n hx hb dX7_most_59 rfl (lv_at hl 6 rfl) ?_
    refine k_get (D := (dC, dI)) (ci := 7) (v := .int 0) (C := RX7) (T := TX7) (N := 92) hx hb hts hinX7 hown hK hP 4 rfl rfl 13 (by decide) w_2 rfl rfl dX7_most_60 ?_
    refine k_iald (v := 0) hx hb hK hP 5 0 0 rfl rfl rfl (Nat.le_of_ble_eq_true rfl) (Nat.le_of_ble_eq_true rfl) rfl dX7_most_63 ?_
    refine lv_ishl hx hb dX7_most_64 ?_
    refine k_int (v := 1) (by decide +kernel) ?_
    refine lv_icmp_ge (tgt := 160) hx hb dX7_most_65 (by decide) (fun q9 => absurd q9 (by decide +kernel)) (fun _ => ?_)
    refine lv_aload_n hx hb dX7_most_68 rfl (lv_at hl 6 rfl) ?_
    refine k_get (D := (dC, dI)) (ci := 7) (v := .ref (p3 72)) (C := RX7) (T := TX7) (N := 92) hx hb hts hinX7 hown hK hP 4 rfl rfl 72 (by decide) w_3 rfl rfl dX7_most_69 ?_
    refine lv_sipush (v := 1024) hx hb dX7_most_72 (by decide +kernel) ?_
    refine lv_iload hx hb dX7_most_75 (lv_at hl 1 rfl) ?_
    refine lv_imul hx hb dX7_most_77 ?_
    refine k_int (v := 4096) (by decide +kernel) ?_
    refine lv_iload hx hb dX7_most_78 (lv_at hl 0 rfl) ?_
    refine lv_iadd hx hb dX7_most_80 ?_
    refine k_int (v := 4096) (by decide +kernel) ?_
    refine k_iald (v := (-1)) hx hb hK hP 2 0 4096 rfl rfl rfl (Nat.le_of_ble_eq_true rfl) (Nat.le_of_ble_eq_true rfl) rfl dX7_most_81 ?_
    refine lv_istore (lv' := [(7, .int (-1)), (6, .int 0), (5, .int 4), (4, .int 0), (8, .int 0), (3, .int (-1)), (0, .ref p0), (1, .int 7), (2, .int p2)]) hx hb dX7_most_82 hl (by decide) rfl (fun ls hl => ?_)
    refine lv_iload hx hb dX7_most_84 (lv_at hl 0 rfl) ?_
    refine lv_iconst (v := (-1)) hx hb dX7_most_86 (by decide +kernel) ?_
    refine lv_icmp_ne (tgt := 93) hx hb dX7_most_87 (by decide) (fun q9 => absurd q9 (by decide +kernel)) (fun _ => ?_)
    refine lv_goto (tgt := 154) hx hb dX7_most_90 (by decide) ?_
    refine lv_iinc (v := 1) (lv' := [(6, .int 1), (7, .int (-1)), (5, .int 4), (4, .int 0), (8, .int 0), (3, .int (-1)), (0, .ref p0), (1, .int 7), (2, .int p2)]) hx hb dX7_most_154 hl (k := 1) rfl (by decide +kernel) (by decide) rfl (fun ls hl => ?_)
    refine lv_goto (tgt := 52) hx hb dX7_most_157 (by decide) ?_
    refine lv_iload hx hb dX7_most_52 (lv_at hl 0 rfl) ?_
    refine lv_iconst (v := 1) hx hb dX7_most_54 (by decide +kernel) ?_
    refine lv_aload_n hx hb dX7_most_55 rfl (lv_at hl 6 rfl) ?_
    refine k_get (D := (dC, dI)) (ci := 7) (v := .ref (p3 14)) (C := RX7) (T := TX7) (N := 92) hx hb hts hinX7 hown hK hP 4 rfl rfl 14 (by decide) w_1 rfl rfl dX7_most_56 ?_
    refine lv_aload_n hx hb dX7_most_59 rfl (lv_at hl 6 rfl) ?_
    refine k_get (D := (dC, dI)) (ci := 7) (v := .int 0) (C := RX7) (T := TX7) (N := 92) hx hb hts hinX7 hown hK hP 4 rfl rfl 13 (by decide) w_2 rfl rfl dX7_most_60 ?_
    refine k_iald (v := 0) hx hb hK hP 5 0 0 rfl rfl rfl (Nat.le_of_ble_eq_true rfl) (Nat.le_of_ble_eq_true rfl) rfl dX7_most_63 ?_
    refine lv_ishl hx hb dX7_most_64 ?_
    refine k_int (v := 1) (by decide +kernel) ?_
    refine lv_icmp_ge (tgt := 160) hx hb dX7_most_65 (by decide) (fun _ => ?_) (fun q9 => absurd q9 (by decide +kernel))
    refine lv_iinc (v := 5) (lv' := [(5, .int 5), (6, .int 1), (7, .int (-1)), (4, .int 0), (8, .int 0), (3, .int (-1)), (0, .ref p0), (1, .int 7), (2, .int p2)]) hx hb dX7_most_160 hl (k := 2) rfl (by decide +kernel) (by decide) rfl (fun ls hl => ?_)
    refine lv_goto (tgt := 43) hx hb dX7_most_163 (by decide) ?_
    refine lv_iload hx hb dX7_most_43 (lv_at hl 0 rfl) ?_
    refine lv_iload_n hx hb dX7_most_45 rfl (lv_at hl 7 rfl) ?_
    refine lv_icmp_gt (tgt := 166) hx hb dX7_most_46 (by decide) (fun q9 => absurd q9 (by decide +kernel)) (fun _ => ?_)
    refine lv_iconst (v := 0) hx hb dX7_most_49 (by decide +kernel) ?_
    refine lv_istore (lv' := [(6, .int 0), (5, .int 5), (7, .int (-1)), (4, .int 0), (8, .int 0), (3, .int (-1)), (0, .ref p0), (1, .int 7), (2, .int p2)]) hx hb dX7_most_50 hl (by decide) rfl (fun ls hl => ?_)
    refine lv_iload hx hb dX7_most_52 (lv_at hl 0 rfl) ?_
    refine lv_iconst (v := 1) hx hb dX7_most_54 (by decide +kernel) ?_
    refine lv_aload_n hx hb dX7_most_55 rfl (lv_at hl 6 rfl) ?_
    refine k_get (D := (dC, dI)) (ci := 7) (v := .ref (p3 14)) (C := RX7) (T := TX7) (N := 92) hx hb hts hinX7 hown hK hP 4 rfl rfl 14 (by decide) w_1 rfl rfl dX7_most_56 ?_
    refine lv_aload_n hx hb dX7_most_59 rfl (lv_at hl 6 rfl) ?_
    refine k_get (D := (dC, dI)) (ci := 7) (v := .int 0) (C := RX7) (T := TX7) (N := 92) hx hb hts hinX7 hown hK hP 4 rfl rfl 13 (by decide) w_2 rfl rfl dX7_most_60 ?_
    refine k_iald (v := 0) hx hb hK hP 5 0 0 rfl rfl rfl (Nat.le_of_ble_eq_true rfl) (Nat.le_of_ble_eq_true rfl) rfl dX7_most_63 ?_
    refine lv_ishl hx hb dX7_most_64 ?_
    refine k_int (v := 1) (by decide +kernel) ?_
    refine lv_icmp_ge (tgt := 160) hx hb dX7_most_65 (by decide) (fun q9 => absurd q9 (by decide +kernel)) (fun _ => ?_)
    refine lv_aload_n hx hb dX7_most_68 rfl (lv_at hl 6 rfl) ?_
    refine k_get (D := (dC, dI)) (ci := 7) (v := .ref (p3 72)) (C := RX7) (T := TX7) (N := 92) hx hb hts hinX7 hown hK hP 4 rfl rfl 72 (by decide) w_3 rfl rfl dX7_most_69 ?_
    refine lv_sipush (v := 1024) hx hb dX7_most_72 (by decide +kernel) ?_
    refine lv_iload hx hb dX7_most_75 (lv_at hl 1 rfl) ?_
    refine lv_imul hx hb dX7_most_77 ?_
    refine k_int (v := 5120) (by decide +kernel) ?_
    refine lv_iload hx hb dX7_most_78 (lv_at hl 0 rfl) ?_
    refine lv_iadd hx hb dX7_most_80 ?_
    refine k_int (v := 5120) (by decide +kernel) ?_
    refine k_iald (v := (-1)) hx hb hK hP 2 0 5120 rfl rfl rfl (Nat.le_of_ble_eq_true rfl) (Nat.le_of_ble_eq_true rfl) rfl dX7_most_81 ?_
    refine lv_istore (lv' := [(7, .int (-1)), (6, .int 0), (5, .int 5), (4, .int 0), (8, .int 0), (3, .int (-1)), (0, .ref p0), (1, .int 7), (2, .int p2)]) hx hb dX7_most_82 hl (by decide) rfl (fun ls hl => ?_)
    refine lv_iload hx hb dX7_most_84 (lv_at hl 0 rfl) ?_
    refine lv_iconst (v := (-1)) hx hb dX7_most_86 (by decide +kernel) ?_
    refine lv_icmp_ne (tgt := 93) hx hb dX7_most_87 (by decide) (fun q9 => absurd q9 (by decide +kernel)) (fun _ => ?_)
    refine lv_goto (tgt := 154) hx hb dX7_most_90 (by decide) ?_
    refine lv_iinc (v := 1) (lv' := [(6, .int 1), (7, .int (-1)), (5, .int 5), (4, .int 0), (8, .int 0), (3, .int (-1)), (0, .ref p0), (1, .int 7), (2, .int p2)]) hx hb dX7_most_154 hl (k := 1) rfl (by decide +kernel) (by decide) rfl (fun ls hl => ?_)
    refine lv_goto (tgt := 52) hx hb dX7_most_157 (by decide) ?_
    refine lv_iload hx hb dX7_most_52 (lv_at hl 0 rfl) ?_
    refine lv_iconst (v := 1) hx hb dX7_most_54 (by decide +kernel) ?_
    refine lv_aload_n hx hb dX7_most_55 rfl (lv_at hl 6 rfl) ?_
    refine k_get (D := (dC, dI)) (ci := 7) (v := .ref (p3 14)) (C := RX7) (T := TX7) (N := 92) hx hb hts hinX7 hown hK hP 4 rfl rfl 14 (by decide) w_1 rfl rfl dX7_most_56 ?_
    refine lv_aload_n hx hb dX7_most_59 rfl (lv_at hl 6 rfl) ?_
    refine k_get (D := (dC, dI)) (ci := 7) (v := .int 0) (C := RX7) (T := TX7) (N := 92) hx hb hts hinX7 hown hK hP 4 rfl rfl 13 (by decide) w_2 rfl rfl dX7_most_60 ?_
    refine k_iald (v := 0) hx hb hK hP 5 0 0 rfl rfl rfl (Nat.le_of_ble_eq_true rfl) (Nat.le_of_ble_eq_true rfl) rfl dX7_most_63 ?_
    refine lv_ishl hx hb dX7_most_64 ?_
    refine k_int (v := 1) (by decide +kernel) ?_
    refine lv_icmp_ge (tgt := 160) hx hb dX7_most_65 (by decide) (fun _ => ?_) (fun q9 => absurd q9 (by decide +kernel))
    refine lv_iinc (v := 6) (lv' := [(5, .int 6), (6, .int 1), (7, .int (-1)), (4, .int 0), (8, .int 0), (3, .int (-1)), (0, .ref p0), (1, .int 7), (2, .int p2)]) hx hb dX7_most_160 hl (k := 2) rfl (by decide +kernel) (by decide) rfl (fun ls hl => ?_)
    refine lv_goto (tgt := 43) hx hb dX7_most_163 (by decide) ?_
    refine lv_iload hx hb dX7_most_43 (lv_at hl 0 rfl) ?_
    refine lv_iload_n hx hb dX7_most_45 rfl (lv_at hl 7 rfl) ?_
    refine lv_icmp_gt (tgt := 166) hx hb dX7_most_46 (by decide) (fun q9 => absurd q9 (by decide +kernel)) (fun _ => ?_)
    refine lv_iconst (v := 0) hx hb dX7_most_49 (by decide +kernel) ?_
    refine lv_istore (lv' := [(6, .int 0), (5, .int 6), (7, .int (-1)), (4, .int 0), (8, .int 0), (3, .int (-1)), (0, .ref p0), (1, .int 7), (2, .int p2)]) hx hb dX7_most_50 hl (by decide) rfl (fun ls hl => ?_)
    refine lv_iload hx hb dX7_most_52 (lv_at hl 0 rfl) ?_
    refine lv_iconst (v := 1) hx hb dX7_most_54 (by decide +kernel) ?_
    refine lv_aload_n hx hb dX7_most_55 rfl (lv_at hl 6 rfl) ?_
    refine k_get (D := (dC, dI)) (ci := 7) (v := .ref (p3 14)) (C := RX7) (T := TX7) (N := 92) hx hb hts hinX7 hown hK hP 4 rfl rfl 14 (by decide) w_1 rfl rfl dX7_most_56 ?_
    refine lv_aload_n hx hb dX7_most_59 rfl (lv_at hl 6 rfl) ?_
    refine k_get (D := (dC, dI)) (ci := 7) (v := .int 0) (C := RX7) (T := TX7) (N := 92) hx hb hts hinX7 hown hK hP 4 rfl rfl 13 (by decide) w_2 rfl rfl dX7_most_60 ?_
    refine k_iald (v := 0) hx hb hK hP 5 0 0 rfl rfl rfl (Nat.le_of_ble_eq_true rfl) (Nat.le_of_ble_eq_true rfl) rfl dX7_most_63 ?_
    refine lv_ishl hx hb dX7_most_64 ?_
    refine k_int (v := 1) (by decide +kernel) ?_
    refine lv_icmp_ge (tgt := 160) hx hb dX7_most_65 (by decide) (fun q9 => absurd q9 (by decide +kernel)) (fun _ => ?_)
    refine lv_aload_n hx hb dX7_most_68 rfl (lv_at hl 6 rfl) ?_
    refine k_get (D := (dC, dI)) (ci := 7) (v := .ref (p3 72)) (C := RX7) (T := TX7) (N := 92) hx hb hts hinX7 hown hK hP 4 rfl rfl 72 (by decide) w_3 rfl rfl dX7_most_69 ?_
    refine lv_sipush (v := 1024) hx hb dX7_most_72 (by decide +kernel) ?_
    refine lv_iload hx hb dX7_most_75 (lv_at hl 1 rfl) ?_
    refine lv_imul hx hb dX7_most_77 ?_
    refine k_int (v := 6144) (by decide +kernel) ?_
    refine lv_iload hx hb dX7_most_78 (lv_at hl 0 rfl) ?_
    refine lv_iadd hx hb dX7_most_80 ?_
    refine k_int (v := 6144) (by decide +kernel) ?_
    refine k_iald (v := (-1)) hx hb hK hP 2 0 6144 rfl rfl rfl (Nat.le_of_ble_eq_true rfl) (Nat.le_of_ble_eq_true rfl) rfl dX7_most_81 ?_
    refine lv_istore (lv' := [(7, .int (-1)), (6, .int 0), (5, .int 6), (4, .int 0), (8, .int 0), (3, .int (-1)), (0, .ref p0), (1, .int 7), (2, .int p2)]) hx hb dX7_most_82 hl (by decide) rfl (fun ls hl => ?_)
    refine lv_iload hx hb dX7_most_84 (lv_at hl 0 rfl) ?_
    refine lv_iconst (v := (-1)) hx hb dX7_most_86 (by decide +kernel) ?_
    refine lv_icmp_ne (tgt := 93) hx hb dX7_most_87 (by decide) (fun q9 => absurd q9 (by decide +kernel)) (fun _ => ?_)
    refine lv_goto (tgt := 154) hx hb dX7_most_90 (by decide) ?_
    refine lv_iinc (v := 1) (lv' := [(6, .int 1), (7, .int (-1)), (5, .int 6), (4, .int 0), (8, .int 0), (3, .int (-1)), (0, .ref p0), (1, .int 7), (2, .int p2)]) hx hb dX7_most_154 hl (k := 1) rfl (by decide +kernel) (by decide) rfl (fun ls hl => ?_)
    refine lv_goto (tgt := 52) hx hb dX7_most_157 (by decide) ?_
    refine lv_iload hx hb dX7_most_52 (lv_at hl 0 rfl) ?_
    refine lv_iconst (v := 1) hx hb dX7_most_54 (by decide +kernel) ?_
    refine lv_aload_n hx hb dX7_most_55 rfl (lv_at hl 6 rfl) ?_
    refine k_get (D := (dC, dI)) (ci := 7) (v := .ref (p3 14)) (C := RX7) (T := TX7) (N := 92) hx hb hts hinX7 hown hK hP 4 rfl rfl 14 (by decide) w_1 rfl rfl dX7_most_56 ?_
    refine lv_aload_n hx hb dX7_most_59 rfl (lv_at hl 6 rfl) ?_
    refine k_get (D := (dC, dI)) (ci := 7) (v := .int 0) (C := RX7) (T := TX7) (N := 92) hx hb hts hinX7 hown hK hP 4 rfl rfl 13 (by decide) w_2 rfl rfl dX7_most_60 ?_
    refine k_iald (v := 0) hx hb hK hP 5 0 0 rfl rfl rfl (Nat.le_of_ble_eq_true rfl) (Nat.le_of_ble_eq_true rfl) rfl dX7_most_63 ?_
    refine lv_ishl hx hb dX7_most_64 ?_
    refine k_int (v := 1) (by decide +kernel) ?_
    refine lv_icmp_ge (tgt := 160) hx hb dX7_most_65 (by decide) (fun _ => ?_) (fun q9 => absurd q9 (by decide +kernel))
    refine lv_iinc (v := 7) (lv' := [(5, .int 7), (6, .int 1), (7, .int (-1)), (4, .int 0), (8, .int 0), (3, .int (-1)), (0, .ref p0), (1, .int 7), (2, .int p2)]) hx hb dX7_most_160 hl (k := 2) rfl (by decide +kernel) (by decide) rfl (fun ls hl => ?_)
    refine lv_goto (tgt := 43) hx hb dX7_most_163 (by decide) ?_
    refine lv_iload hx hb dX7_most_43 (lv_at hl 0 rfl) ?_
    refine lv_iload_n hx hb dX7_most_45 rfl (lv_at hl 7 rfl) ?_
    refine lv_icmp_gt (tgt := 166) hx hb dX7_most_46 (by decide) (fun q9 => absurd q9 (by decide +kernel)) (fun _ => ?_)
    refine lv_iconst (v := 0) hx hb dX7_most_49 (by decide +kernel) ?_
    refine lv_istore (lv' := [(6, .int 0), (5, .int 7), (7, .int (-1)), (4, .int 0), (8, .int 0), (3, .int (-1)), (0, .ref p0), (1, .int 7), (2, .int p2)]) hx hb dX7_most_50 hl (by decide) rfl (fun ls hl => ?_)
    refine lv_iload hx hb dX7_most_52 (lv_at hl 0 rfl) ?_
    refine lv_iconst (v := 1) hx hb dX7_most_54 (by decide +kernel) ?_
    refine lv_aload_n hx hb dX7_most_55 rfl (lv_at hl 6 rfl) ?_
    refine k_get (D := (dC, dI)) (ci := 7) (v := .ref (p3 14)) (C := RX7) (T := TX7) (N := 92) hx hb hts hinX7 hown hK hP 4 rfl rfl 14 (by decide) w_1 rfl rfl dX7_most_56 ?_
    refine lv_aload_n hx hb dX7_most_59 rfl (lv_at hl 6 rfl) ?_
    refine k_get (D := (dC, dI)) (ci := 7) (v := .int 0) (C := RX7) (T := TX7) (N := 92) hx hb hts hinX7 hown hK hP 4 rfl rfl 13 (by decide) w_2 rfl rfl dX7_most_60 ?_
    refine k_iald (v := 0) hx hb hK hP 5 0 0 rfl rfl rfl (Nat.le_of_ble_eq_true rfl) (Nat.le_of_ble_eq_true rfl) rfl dX7_most_63 ?_
    refine lv_ishl hx hb dX7_most_64 ?_
    refine k_int (v := 1) (by decide +kernel) ?_
    refine lv_icmp_ge (tgt := 160) hx hb dX7_most_65 (by decide) (fun q9 => absurd q9 (by decide +kernel)) (fun _ => ?_)
    refine lv_aload_n hx hb dX7_most_68 rfl (lv_at hl 6 rfl) ?_
    refine k_get (D := (dC, dI)) (ci := 7) (v := .ref (p3 72)) (C := RX7) (T := TX7) (N := 92) hx hb hts hinX7 hown hK hP 4 rfl rfl 72 (by decide) w_3 rfl rfl dX7_most_69 ?_
    refine lv_sipush (v := 1024) hx hb dX7_most_72 (by decide +kernel) ?_
    refine lv_iload hx hb dX7_most_75 (lv_at hl 1 rfl) ?_
    refine lv_imul hx hb dX7_most_77 ?_
    refine k_int (v := 7168) (by decide +kernel) ?_
    refine lv_iload hx hb dX7_most_78 (lv_at hl 0 rfl) ?_
    refine lv_iadd hx hb dX7_most_80 ?_
    refine k_int (v := 7168) (by decide +kernel) ?_
    refine k_iald (v := (-1)) hx hb hK hP 2 0 7168 rfl rfl rfl (Nat.le_of_ble_eq_true rfl) (Nat.le_of_ble_eq_true rfl) rfl dX7_most_81 ?_
    refine lv_istore (lv' := [(7, .int (-1)), (6, .int 0), (5, .int 7), (4, .int 0), (8, .int 0), (3, .int (-1)), (0, .ref p0), (1, .int 7), (2, .int p2)]) hx hb dX7_most_82 hl (by decide) rfl (fun ls hl => ?_)
    refine lv_iload hx hb dX7_most_84 (lv_at hl 0 rfl) ?_
    refine lv_iconst (v := (-1)) hx hb dX7_most_86 (by decide +kernel) ?_
    refine lv_icmp_ne (tgt := 93) hx hb dX7_most_87 (by decide) (fun q9 => absurd q9 (by decide +kernel)) (fun _ => ?_)
    refine lv_goto (tgt := 154) hx hb dX7_most_90 (by decide) ?_
    refine lv_iinc (v := 1) (lv' := [(6, .int 1), (7, .int (-1)), (5, .int 7), (4, .int 0), (8, .int 0), (3, .int (-1)), (0, .ref p0), (1, .int 7), (2, .int p2)]) hx hb dX7_most_154 hl (k := 1) rfl (by decide +kernel) (by decide) rfl (fun ls hl => ?_)
    refine lv_goto (tgt := 52) hx hb dX7_most_157 (by decide) ?_
    refine lv_iload hx hb dX7_most_52 (lv_at hl 0 rfl) ?_
    refine lv_iconst (v := 1) hx hb dX7_most_54 (by decide +kernel) ?_
    refine lv_aload_n hx hb dX7_most_55 rfl (lv_at hl 6 rfl) ?_
    refine k_get (D := (dC, dI)) (ci := 7) (v := .ref (p3 14)) (C := RX7) (T := TX7) (N := 92) hx hb hts hinX7 hown hK hP 4 rfl rfl 14 (by decide) w_1 rfl rfl dX7_most_56 ?_
    refine lv_aload_n hx hb dX7_most_59 rfl (lv_at hl 6 rfl) ?_
    refine k_get (D := (dC, dI)) (ci := 7) (v := .int 0) (C := RX7) (T := TX7) (N := 92) hx hb hts hinX7 hown hK hP 4 rfl rfl 13 (by decide) w_2 rfl rfl dX7_most_60 ?_
    refine k_iald (v := 0) hx hb hK hP 5 0 0 rfl rfl rfl (Nat.le_of_ble_eq_true rfl) (Nat.le_of_ble_eq_true rfl) rfl dX7_most_63 ?_
    refine lv_ishl hx hb dX7_most_64 ?_
    refine k_int (v := 1) (by decide +kernel) ?_
    refine lv_icmp_ge (tgt := 160) hx hb dX7_most_65 (by decide) (fun _ => ?_) (fun q9 => absurd q9 (by decide +kernel))
    refine lv_iinc (v := 8) (lv' := [(5, .int 8), (6, .int 1), (7, .int (-1)), (4, .int 0), (8, .int 0), (3, .int (-1)), (0, .ref p0), (1, .int 7), (2, .int p2)]) hx hb dX7_most_160 hl (k := 2) rfl (by decide +kernel) (by decide) rfl (fun ls hl => ?_)
    refine lv_goto (tgt := 43) hx hb dX7_most_163 (by decide) ?_
    refine lv_iload hx hb dX7_most_43 (lv_at hl 0 rfl) ?_
    refine lv_iload_n hx hb dX7_most_45 rfl (lv_at hl 7 rfl) ?_
    refine lv_icmp_gt (tgt := 166) hx hb dX7_most_46 (by decide) (fun _ => ?_) (fun q9 => absurd q9 (by decide +kernel))
    refine lv_iload_n hx hb dX7_most_166 rfl (lv_at hl 8 rfl) ?_
    refine lv_if_ne (tgt := 175) hx hb dX7_most_167 (by decide) (fun c_96 => ?_) (fun c_96 => ?_)
    · have c_96 : ¬ p2.toInt = 0 := k_eqF rfl (by decide +kernel) c_96
      refine lv_iload_n hx hb dX7_most_175 rfl (lv_at hl 8 rfl) ?_
      refine lv_iconst (v := 1) hx hb dX7_most_176 (by decide +kernel) ?_
      refine lv_icmp_ne (tgt := 187) hx hb dX7_most_177 (by decide) (fun c_97 => ?_) (fun c_97 => ?_)
      · have c_97 : ¬ p2.toInt = 1 := k_eqF rfl (by decide +kernel) c_97
        exfalso; omega
      · have c_97 : p2.toInt = 1 := k_eqT rfl (by decide +kernel) c_97
        refine lv_aload_n hx hb dX7_most_180 rfl (lv_at hl 6 rfl) ?_
        refine k_get (D := (dC, dI)) (ci := 7) (v := .int 0) (C := RX7) (T := TX7) (N := 92) hx hb hts hinX7 hown hK hP 4 rfl rfl 75 (by decide) w_0 rfl rfl dX7_most_181 ?_
        refine lv_goto (tgt := 203) hx hb dX7_most_184 (by decide) ?_
        exact k_ri B hP hD hS dX7_most_203 () [4, 0, 1, 2, 5, 3] rfl rfl rfl (Nat.le_of_ble_eq_true rfl) (Nat.le_of_ble_eq_true rfl) rfl
    · have c_96 : p2.toInt = 0 := k_eqT rfl (by decide +kernel) c_96
      exfalso; omega
  · obtain rfl : p1 = 8 := k_eqL (by decide +kernel) c_1
    refine lv_iload_n hx hb dX7_most_0 rfl (lv_at hl 1 rfl) ?_
    refine lv_iconst (v := 0) hx hb dX7_most_1 (by decide +kernel) ?_
    refine lv_bipush (v := 8) hx hb dX7_most_2 (by decide +kernel) ?_
    refine k_ci (wc := []) (wr := [(p0, .inr (7, oM p3 i7 j7)), ((p3 49), .inl (cI, 22, .inl (fun _ => 0))), ((p3 50), .inl (cI, 22, .inl (fun _ => 0))), ((p3 72), .inl (cI, 9216, .inl (fun _ => 0))), ((p3 14), .inl (cI, 2, .inl (fun _ => 0))), ((p3 18), .inl (cI, 2, .inl (fun _ => 0)))]) (fun hPc hDc hFc => va_runS (As := [.int 8, .int 0, .int 8]) (rest := []) ⟨hx, hb, hml, hown, hts⟩ (c_X7_is_v14 l dC dI cI cJ cZ cM H.size) (va_cwS 3 hts gX7_most_X7_is rfl rfl rfl (by decide +kernel) ⟨(Nat.le_of_ble_eq_true rfl), (Nat.le_of_ble_eq_true rfl)⟩) (k_pS hPc hDc hK hN hC hS hFc) rfl rfl hl.1 rfl (lv_room (Nat.le_of_ble_eq_true rfl)) dX7_most_4 ⟨(Nat.le_of_ble_eq_true rfl), (Nat.le_of_ble_eq_true rfl)⟩) hP hD hS hA [] [0, 1, 2, 3, 4, 5] rfl rfl rfl rfl (by decide) (fun _ => rfl) 0 0 rfl rfl (fun r_98 u_99 H locs hw hP hD hS => ?_)
    obtain rfl : r_98 = 1 := hw
    have hP : va_P (dC, dI) vwCl [(p0, .inr (7, oM p3 i7 j7)), ((p3 49), .inl (cI, 22, .inl (fun _ => 0))), ((p3 50), .inl (cI, 22, .inl (fun _ => 0))), ((p3 72), .inl (cI, 9216, .inl (fun _ => 0))), ((p3 14), .inl (cI, 2, .inl (fun _ => 0))), ((p3 18), .inl (cI, 2, .inl (fun _ => 0)))] H := hP
    have hD : va_D A [(p0, .inr (7, oM p3 i7 j7)), ((p3 49), .inl (cI, 22, .inl (fun _ => 0))), ((p3 50), .inl (cI, 22, .inl (fun _ => 0))), ((p3 72), .inl (cI, 9216, .inl (fun _ => 0))), ((p3 14), .inl (cI, 2, .inl (fun _ => 0))), ((p3 18), .inl (cI, 2, .inl (fun _ => 0)))] := hD
    refine lv_if_eq (tgt := 19) hx hb dX7_most_7 (by decide) (fun q9 => absurd q9 (by decide +kernel)) (fun _ => ?_)
    refine lv_iload_n hx hb dX7_most_10 rfl (lv_at hl 2 rfl) ?_
    refine lv_iconst (v := 0) hx hb dX7_most_11 (by decide +kernel) ?_
    refine lv_iconst (v := 3) hx hb dX7_most_12 (by decide +kernel) ?_
    refine k_ci (wc := []) (wr := [(p0, .inr (7, oM p3 i7 j7)), ((p3 49), .inl (cI, 22, .inl (fun _ => 0))), ((p3 50), .inl (cI, 22, .inl (fun _ => 0))), ((p3 72), .inl (cI, 9216, .inl (fun _ => 0))), ((p3 14), .inl (cI, 2, .inl (fun _ => 0))), ((p3 18), .inl (cI, 2, .inl (fun _ => 0)))]) (fun hPc hDc hFc => va_runS (As := [.int p2, .int 0, .int 3]) (rest := []) ⟨hx, hb, hml, hown, hts⟩ (c_X7_is_v21 l dC dI cI cJ cZ cM p2 (by omega) (by omega) H.size) (va_cwS 3 hts gX7_most_X7_is rfl rfl rfl (by decide +kernel) ⟨(Nat.le_of_ble_eq_true rfl), (Nat.le_of_ble_eq_true rfl)⟩) (k_pS hPc hDc hK hN hC hS hFc) rfl rfl hl.1 rfl (lv_room (Nat.le_of_ble_eq_true rfl)) dX7_most_13 ⟨(Nat.le_of_ble_eq_true rfl), (Nat.le_of_ble_eq_true rfl)⟩) hP hD hS hA [] [0, 1, 2, 3, 4, 5] rfl rfl rfl rfl (by decide) (fun _ => rfl) 0 0 rfl rfl (fun r_100 u_101 H locs hw hP hD hS => ?_)
    obtain rfl : r_100 = 1 := hw
    have hP : va_P (dC, dI) vwCl [(p0, .inr (7, oM p3 i7 j7)), ((p3 49), .inl (cI, 22, .inl (fun _ => 0))), ((p3 50), .inl (cI, 22, .inl (fun _ => 0))), ((p3 72), .inl (cI, 9216, .inl (fun _ => 0))), ((p3 14), .inl (cI, 2, .inl (fun _ => 0))), ((p3 18), .inl (cI, 2, .inl (fun _ => 0)))] H := hP
    have hD : va_D A [(p0, .inr (7, oM p3 i7 j7)), ((p3 49), .inl (cI, 22, .inl (fun _ => 0))), ((p3 50), .inl (cI, 22, .inl (fun _ => 0))), ((p3 72), .inl (cI, 9216, .inl (fun _ => 0))), ((p3 14), .inl (cI, 2, .inl (fun _ => 0))), ((p3 18), .inl (cI, 2, .inl (fun _ => 0)))] := hD
    refine lv_if_ne (tgt := 21) hx hb dX7_most_16 (by decide) (fun _ => ?_) (fun q9 => absurd q9 (by decide +kernel))
    refine lv_aload_n hx hb dX7_most_21 rfl (lv_at hl 0 rfl) ?_
    refine k_cv (wc := [(p0, .inr (7, oM p3 i7 j7)), ((p3 49), .inl (cI, 22, .inl (fun _ => 0))), ((p3 50), .inl (cI, 22, .inl (fun _ => 0))), ((p3 72), .inl (cI, 9216, .inl (fun _ => 0))), ((p3 14), .inl (cI, 2, .inl (fun _ => 0))), ((p3 18), .inl (cI, 2, .inl (fun _ => 0)))]) (wr := []) (fun hPc hDc hFc => va_runV (As := []) (rest := []) ⟨hx, hb, hml, hown, hts⟩ (c_X7_climbs_v0 l dC dI cI cJ cZ cM p0 p3 H.size) (cwV 0 hts gX7_most_X7_climbs rfl rfl rfl (by decide +kernel) ⟨(Nat.le_of_ble_eq_true rfl), (Nat.le_of_ble_eq_true rfl)⟩) (k_pV hPc hDc hK hN hC hS hFc hP (q0 := 0) (ci := 7) rfl rfl) rfl rfl hl.1 rfl (lv_room (Nat.le_of_ble_eq_true rfl)) dX7_most_22 ⟨(Nat.le_of_ble_eq_true rfl), (Nat.le_of_ble_eq_true rfl)⟩) hP hD hS hA [0, 1, 2, 3, 4, 5] [] rfl rfl rfl rfl (by decide) (fun _ => rfl) 0 0 rfl rfl (fun u_103 H locs hw hP hD hS => ?_)
    have hP : va_P (dC, dI) vwCl [(p0, .inr (7, oM p3 i7 j7)), ((p3 49), .inl (cI, 22, .inl (fun _ => 0))), ((p3 50), .inl (cI, 22, .inl (fun _ => 0))), ((p3 72), .inl (cI, 9216, .inl (upd (fun _ => (-1)) 0 0))), ((p3 14), .inl (cI, 2, .inl (fun _ => 0))), ((p3 18), .inl (cI, 2, .inl (fun _ => 0)))] H := hP
    have hD : va_D A [(p0, .inr (7, oM p3 i7 j7)), ((p3 49), .inl (cI, 22, .inl (fun _ => 0))), ((p3 50), .inl (cI, 22, .inl (fun _ => 0))), ((p3 72), .inl (cI, 9216, .inl (upd (fun _ => (-1)) 0 0))), ((p3 14), .inl (cI, 2, .inl (fun _ => 0))), ((p3 18), .inl (cI, 2, .inl (fun _ => 0)))] := hD
    refine lv_aload_n hx hb dX7_most_25 rfl (lv_at hl 0 rfl) ?_
    refine k_ci (wc := [(p0, .inr (7, oM p3 i7 j7)), ((p3 14), .inl (cI, 2, .inl (fun _ => 0)))]) (wr := [((p3 49), .inl (cI, 22, .inl (fun _ => 0))), ((p3 50), .inl (cI, 22, .inl (fun _ => 0))), ((p3 72), .inl (cI, 9216, .inl (upd (fun _ => (-1)) 0 0))), ((p3 18), .inl (cI, 2, .inl (fun _ => 0)))]) (fun hPc hDc hFc => va_runV (As := []) (rest := []) ⟨hx, hb, hml, hown, hts⟩ (c_X7_briefOnes_v2 l dC dI cI cJ cZ cM p0 p3 H.size) (cwV 0 hts gX7_most_X7_briefOnes rfl rfl rfl (by decide +kernel) ⟨(Nat.le_of_ble_eq_true rfl), (Nat.le_of_ble_eq_true rfl)⟩) (k_pV hPc hDc hK hN hC hS hFc hP (q0 := 0) (ci := 7) rfl rfl) rfl rfl hl.1 rfl (lv_room (Nat.le_of_ble_eq_true rfl)) dX7_most_26 ⟨(Nat.le_of_ble_eq_true rfl), (Nat.le_of_ble_eq_true rfl)⟩) hP hD hS hA [0, 4] [1, 2, 3, 5] rfl rfl rfl rfl (by decide) (fun _ => rfl) 0 0 rfl rfl (fun r_104 u_105 H locs hw hP hD hS => ?_)
    obtain rfl : r_104 = 0 := hw
    have hP : va_P (dC, dI) vwCl [((p3 49), .inl (cI, 22, .inl (fun _ => 0))), ((p3 50), .inl (cI, 22, .inl (fun _ => 0))), ((p3 72), .inl (cI, 9216, .inl (upd (fun _ => (-1)) 0 0))), ((p3 18), .inl (cI, 2, .inl (fun _ => 0))), (p0, .inr (7, oM p3 i7 j7)), ((p3 14), .inl (cI, 2, .inl (fun _ => 0)))] H := hP
    have hD : va_D A [((p3 49), .inl (cI, 22, .inl (fun _ => 0))), ((p3 50), .inl (cI, 22, .inl (fun _ => 0))), ((p3 72), .inl (cI, 9216, .inl (upd (fun _ => (-1)) 0 0))), ((p3 18), .inl (cI, 2, .inl (fun _ => 0))), (p0, .inr (7, oM p3 i7 j7)), ((p3 14), .inl (cI, 2, .inl (fun _ => 0)))] := hD
    refine lv_iconst (v := (-1)) hx hb dX7_most_29 (by decide +kernel) ?_
    refine lv_ixor hx hb dX7_most_30 ?_
    refine k_int (v := (-1)) (by decide +kernel) ?_
    refine lv_istore_n (lv' := [(3, .int (-1)), (0, .ref p0), (1, .int 8), (2, .int p2)]) hx hb dX7_most_31 rfl hl (by decide) rfl (fun ls hl => ?_)
    refine lv_aload_n hx hb dX7_most_32 rfl (lv_at hl 1 rfl) ?_
    refine lv_iconst (v := (-1)) hx hb dX7_most_33 (by decide +kernel) ?_
    refine k_put (D := (dC, dI)) (ci := 7) (v := .int (-1)) (C := RX7) (T := TX7) (N := 92) (ws' := [((p3 49), .inl (cI, 22, .inl (fun _ => 0))), ((p3 50), .inl (cI, 22, .inl (fun _ => 0))), ((p3 72), .inl (cI, 9216, .inl (upd (fun _ => (-1)) 0 0))), ((p3 18), .inl (cI, 2, .inl (fun _ => 0))), (p0, .inr (7, oM p3 (upd i7 75 (-1)) j7)), ((p3 14), .inl (cI, 2, .inl (fun _ => 0)))]) hx hb hts hinX7 tyX7 tyX7_ok nmX7 hown hK hP hD hS 4 rfl rfl 75 (by decide) w_0 rfl rfl rfl rfl (Nat.le_of_ble_eq_true rfl) rfl dX7_most_34 (fun H locs hP hD hS => ?_)
    refine lv_iconst (v := (-1)) hx hb dX7_most_37 (by decide +kernel) ?_
    refine lv_istore (lv' := [(4, .int (-1)), (3, .int (-1)), (0, .ref p0), (1, .int 8), (2, .int p2)]) hx hb dX7_most_38 hl (by decide) rfl (fun ls hl => ?_)
    refine lv_iconst (v := 0) hx hb dX7_most_40 (by decide +kernel) ?_
    refine lv_istore (lv' := [(5, .int 0), (4, .int (-1)), (3, .int (-1)), (0, .ref p0), (1, .int 8), (2, .int p2)]) hx hb dX7_most_41 hl (by decide) rfl (fun ls hl => ?_)
    refine lv_iload hx hb dX7_most_43 (lv_at hl 0 rfl) ?_
    refine lv_iload_n hx hb dX7_most_45 rfl (lv_at hl 4 rfl) ?_
    refine lv_icmp_gt (tgt := 166) hx hb dX7_most_46 (by decide) (fun q9 => absurd q9 (by decide +kernel)) (fun _ => ?_)
    refine lv_iconst (v := 0) hx hb dX7_most_49 (by decide +kernel) ?_
    refine lv_istore (lv' := [(6, .int 0), (5, .int 0), (4, .int (-1)), (3, .int (-1)), (0, .ref p0), (1, .int 8), (2, .int p2)]) hx hb dX7_most_50 hl (by decide) rfl (fun ls hl => ?_)
    refine lv_iload hx hb dX7_most_52 (lv_at hl 0 rfl) ?_
    refine lv_iconst (v := 1) hx hb dX7_most_54 (by decide +kernel) ?_
    refine lv_aload_n hx hb dX7_most_55 rfl (lv_at hl 4 rfl) ?_
    refine k_get (D := (dC, dI)) (ci := 7) (v := .ref (p3 14)) (C := RX7) (T := TX7) (N := 92) hx hb hts hinX7 hown hK hP 4 rfl rfl 14 (by decide) w_1 rfl rfl dX7_most_56 ?_
    refine lv_aload_n hx hb dX7_most_59 rfl (lv_at hl 4 rfl) ?_
    refine k_get (D := (dC, dI)) (ci := 7) (v := .int 0) (C := RX7) (T := TX7) (N := 92) hx hb hts hinX7 hown hK hP 4 rfl rfl 13 (by decide) w_2 rfl rfl dX7_most_60 ?_
    refine k_iald (v := 0) hx hb hK hP 5 0 0 rfl rfl rfl (Nat.le_of_ble_eq_true rfl) (Nat.le_of_ble_eq_true rfl) rfl dX7_most_63 ?_
    refine lv_ishl hx hb dX7_most_64 ?_
    refine k_int (v := 1) (by decide +kernel) ?_
    refine lv_icmp_ge (tgt := 160) hx hb dX7_most_65 (by decide) (fun q9 => absurd q9 (by decide +kernel)) (fun _ => ?_)
    refine lv_aload_n hx hb dX7_most_68 rfl (lv_at hl 4 rfl) ?_
    refine k_get (D := (dC, dI)) (ci := 7) (v := .ref (p3 72)) (C := RX7) (T := TX7) (N := 92) hx hb hts hinX7 hown hK hP 4 rfl rfl 72 (by decide) w_3 rfl rfl dX7_most_69 ?_
    refine lv_sipush (v := 1024) hx hb dX7_most_72 (by decide +kernel) ?_
    refine lv_iload hx hb dX7_most_75 (lv_at hl 1 rfl) ?_
    refine lv_imul hx hb dX7_most_77 ?_
    refine k_int (v := 0) (by decide +kernel) ?_
    refine lv_iload hx hb dX7_most_78 (lv_at hl 0 rfl) ?_
    refine lv_iadd hx hb dX7_most_80 ?_
    refine k_int (v := 0) (by decide +kernel) ?_
    refine k_iald (v := 0) hx hb hK hP 2 0 0 rfl rfl rfl (Nat.le_of_ble_eq_true rfl) (Nat.le_of_ble_eq_true rfl) rfl dX7_most_81 ?_
    refine lv_istore (lv' := [(7, .int 0), (6, .int 0), (5, .int 0), (4, .int (-1)), (3, .int (-1)), (0, .ref p0), (1, .int 8), (2, .int p2)]) hx hb dX7_most_82 hl (by decide) rfl (fun ls hl => ?_)
    refine lv_iload hx hb dX7_most_84 (lv_at hl 0 rfl) ?_
    refine lv_iconst (v := (-1)) hx hb dX7_most_86 (by decide +kernel) ?_
    refine lv_icmp_ne (tgt := 93) hx hb dX7_most_87 (by decide) (fun _ => ?_) (fun q9 => absurd q9 (by decide +kernel))
    refine lv_aload_n hx hb dX7_most_93 rfl (lv_at hl 5 rfl) ?_
    refine lv_iload hx hb dX7_most_94 (lv_at hl 1 rfl) ?_
    refine lv_iload_n hx hb dX7_most_96 rfl (lv_at hl 4 rfl) ?_
    refine lv_iand hx hb dX7_most_97 ?_
    refine k_int (v := 0) (by decide +kernel) ?_
    refine k_ci (wc := [(p0, .inr (7, oM p3 (upd i7 75 (-1)) j7)), ((p3 14), .inl (cI, 2, .inl (fun _ => 0)))]) (wr := [((p3 49), .inl (cI, 22, .inl (fun _ => 0))), ((p3 50), .inl (cI, 22, .inl (fun _ => 0))), ((p3 72), .inl (cI, 9216, .inl (upd (fun _ => (-1)) 0 0))), ((p3 18), .inl (cI, 2, .inl (fun _ => 0)))]) (fun hPc hDc hFc => va_runV (As := [.int 0]) (rest := []) ⟨hx, hb, hml, hown, hts⟩ (c_X7_worthOf_v1 l dC dI cI cJ cZ cM p0 p3 H.size) (cwV 1 hts gX7_most_X7_worthOf rfl rfl rfl (by decide +kernel) ⟨(Nat.le_of_ble_eq_true rfl), (Nat.le_of_ble_eq_true rfl)⟩) (k_pV hPc hDc hK hN hC hS hFc hP (q0 := 4) (ci := 7) rfl rfl) rfl rfl hl.1 rfl (lv_room (Nat.le_of_ble_eq_true rfl)) dX7_most_98 ⟨(Nat.le_of_ble_eq_true rfl), (Nat.le_of_ble_eq_true rfl)⟩) hP hD hS hA [4, 5] [0, 1, 2, 3] rfl rfl rfl rfl (by decide) (fun _ => rfl) 0 0 rfl rfl (fun r_106 u_107 H locs hw hP hD hS => ?_)
    obtain rfl : r_106 = 0 := hw
    have hP : va_P (dC, dI) vwCl [((p3 49), .inl (cI, 22, .inl (fun _ => 0))), ((p3 50), .inl (cI, 22, .inl (fun _ => 0))), ((p3 72), .inl (cI, 9216, .inl (upd (fun _ => (-1)) 0 0))), ((p3 18), .inl (cI, 2, .inl (fun _ => 0))), (p0, .inr (7, oM p3 (upd i7 75 (-1)) j7)), ((p3 14), .inl (cI, 2, .inl (fun _ => 0)))] H := hP
    have hD : va_D A [((p3 49), .inl (cI, 22, .inl (fun _ => 0))), ((p3 50), .inl (cI, 22, .inl (fun _ => 0))), ((p3 72), .inl (cI, 9216, .inl (upd (fun _ => (-1)) 0 0))), ((p3 18), .inl (cI, 2, .inl (fun _ => 0))), (p0, .inr (7, oM p3 (upd i7 75 (-1)) j7)), ((p3 14), .inl (cI, 2, .inl (fun _ => 0)))] := hD
    refine lv_istore (lv' := [(8, .int 0), (7, .int 0), (6, .int 0), (5, .int 0), (4, .int (-1)), (3, .int (-1)), (0, .ref p0), (1, .int 8), (2, .int p2)]) hx hb dX7_most_101 hl (by decide) rfl (fun ls hl => ?_)
    refine lv_iload hx hb dX7_most_103 (lv_at hl 0 rfl) ?_
    refine lv_iload hx hb dX7_most_105 (lv_at hl 4 rfl) ?_
    refine lv_icmp_lt (tgt := 154) hx hb dX7_most_107 (by decide) (fun q9 => absurd q9 (by decide +kernel)) (fun _ => ?_)
    refine lv_iload hx hb dX7_most_110 (lv_at hl 0 rfl) ?_
    refine lv_iload hx hb dX7_most_112 (lv_at hl 4 rfl) ?_
    refine lv_icmp_ne (tgt := 138) hx hb dX7_most_114 (by decide) (fun _ => ?_) (fun q9 => absurd q9 (by decide +kernel))
    refine lv_iload hx hb dX7_most_138 (lv_at hl 0 rfl) ?_
    refine lv_istore (lv' := [(4, .int 0), (8, .int 0), (7, .int 0), (6, .int 0), (5, .int 0), (3, .int (-1)), (0, .ref p0), (1, .int 8), (2, .int p2)]) hx hb dX7_most_140 hl (by decide) rfl (fun ls hl => ?_)
    refine lv_aload_n hx hb dX7_most_142 rfl (lv_at hl 6 rfl) ?_
    refine lv_iload hx hb dX7_most_143 (lv_at hl 4 rfl) ?_
    refine k_put (D := (dC, dI)) (ci := 7) (v := .int 0) (C := RX7) (T := TX7) (N := 92) (ws' := [((p3 49), .inl (cI, 22, .inl (fun _ => 0))), ((p3 50), .inl (cI, 22, .inl (fun _ => 0))), ((p3 72), .inl (cI, 9216, .inl (upd (fun _ => (-1)) 0 0))), ((p3 18), .inl (cI, 2, .inl (fun _ => 0))), (p0, .inr (7, oM p3 (upd i7 75 0) j7)), ((p3 14), .inl (cI, 2, .inl (fun _ => 0)))]) hx hb hts hinX7 tyX7 tyX7_ok nmX7 hown hK hP hD hS 4 rfl rfl 75 (by decide) w_0 rfl rfl rfl rfl (Nat.le_of_ble_eq_true rfl) rfl dX7_most_145 (fun H locs hP hD hS => ?_)
    refine lv_aload_n hx hb dX7_most_148 rfl (lv_at hl 6 rfl) ?_
    refine lv_iload hx hb dX7_most_149 (lv_at hl 3 rfl) ?_
    refine k_put (D := (dC, dI)) (ci := 7) (v := .int 0) (C := RX7) (T := TX7) (N := 92) (ws' := [((p3 49), .inl (cI, 22, .inl (fun _ => 0))), ((p3 50), .inl (cI, 22, .inl (fun _ => 0))), ((p3 72), .inl (cI, 9216, .inl (upd (fun _ => (-1)) 0 0))), ((p3 18), .inl (cI, 2, .inl (fun _ => 0))), (p0, .inr (7, oM p3 (upd (upd i7 75 0) 76 0) j7)), ((p3 14), .inl (cI, 2, .inl (fun _ => 0)))]) hx hb hts hinX7 tyX7 tyX7_ok nmX7 hown hK hP hD hS 4 rfl rfl 76 (by decide) w_4 rfl rfl rfl rfl (Nat.le_of_ble_eq_true rfl) rfl dX7_most_151 (fun H locs hP hD hS => ?_)
    refine lv_iinc (v := 1) (lv' := [(6, .int 1), (4, .int 0), (8, .int 0), (7, .int 0), (5, .int 0), (3, .int (-1)), (0, .ref p0), (1, .int 8), (2, .int p2)]) hx hb dX7_most_154 hl (k := 3) rfl (by decide +kernel) (by decide) rfl (fun ls hl => ?_)
    refine lv_goto (tgt := 52) hx hb dX7_most_157 (by decide) ?_
    refine lv_iload hx hb dX7_most_52 (lv_at hl 0 rfl) ?_
    refine lv_iconst (v := 1) hx hb dX7_most_54 (by decide +kernel) ?_
    refine lv_aload_n hx hb dX7_most_55 rfl (lv_at hl 6 rfl) ?_
    refine k_get (D := (dC, dI)) (ci := 7) (v := .ref (p3 14)) (C := RX7) (T := TX7) (N := 92) hx hb hts hinX7 hown hK hP 4 rfl rfl 14 (by decide) w_1 rfl rfl dX7_most_56 ?_
    refine lv_aload_n hx hb dX7_most_59 rfl (lv_at hl 6 rfl) ?_
    refine k_get (D := (dC, dI)) (ci := 7) (v := .int 0) (C := RX7) (T := TX7) (N := 92) hx hb hts hinX7 hown hK hP 4 rfl rfl 13 (by decide) w_2 rfl rfl dX7_most_60 ?_
    refine k_iald (v := 0) hx hb hK hP 5 0 0 rfl rfl rfl (Nat.le_of_ble_eq_true rfl) (Nat.le_of_ble_eq_true rfl) rfl dX7_most_63 ?_
    refine lv_ishl hx hb dX7_most_64 ?_
    refine k_int (v := 1) (by decide +kernel) ?_
    refine lv_icmp_ge (tgt := 160) hx hb dX7_most_65 (by decide) (fun _ => ?_) (fun q9 => absurd q9 (by decide +kernel))
    refine lv_iinc (v := 1) (lv' := [(5, .int 1), (6, .int 1), (4, .int 0), (8, .int 0), (7, .int 0), (3, .int (-1)), (0, .ref p0), (1, .int 8), (2, .int p2)]) hx hb dX7_most_160 hl (k := 4) rfl (by decide +kernel) (by decide) rfl (fun ls hl => ?_)
    refine lv_goto (tgt := 43) hx hb dX7_most_163 (by decide) ?_
    refine lv_iload hx hb dX7_most_43 (lv_at hl 0 rfl) ?_
    refine lv_iload_n hx hb dX7_most_45 rfl (lv_at hl 7 rfl) ?_
    refine lv_icmp_gt (tgt := 166) hx hb dX7_most_46 (by decide) (fun q9 => absurd q9 (by decide +kernel)) (fun _ => ?_)
    refine lv_iconst (v := 0) hx hb dX7_most_49 (by decide +kernel) ?_
    refine lv_istore (lv' := [(6, .int 0), (5, .int 1), (4, .int 0), (8, .int 0), (7, .int 0), (3, .int (-1)), (0, .ref p0), (1, .int 8), (2, .int p2)]) hx hb dX7_most_50 hl (by decide) rfl (fun ls hl => ?_)
    refine lv_iload hx hb dX7_most_52 (lv_at hl 0 rfl) ?_
    refine lv_iconst (v := 1) hx hb dX7_most_54 (by decide +kernel) ?_
    refine lv_aload_n hx hb dX7_most_55 rfl (lv_at hl 6 rfl) ?_
    refine k_get (D := (dC, dI)) (ci := 7) (v := .ref (p3 14)) (C := RX7) (T := TX7) (N := 92) hx hb hts hinX7 hown hK hP 4 rfl rfl 14 (by decide) w_1 rfl rfl dX7_most_56 ?_
    refine lv_aload_n hx hb dX7_most_59 rfl (lv_at hl 6 rfl) ?_
    refine k_get (D := (dC, dI)) (ci := 7) (v := .int 0) (C := RX7) (T := TX7) (N := 92) hx hb hts hinX7 hown hK hP 4 rfl rfl 13 (by decide) w_2 rfl rfl dX7_most_60 ?_
    refine k_iald (v := 0) hx hb hK hP 5 0 0 rfl rfl rfl (Nat.le_of_ble_eq_true rfl) (Nat.le_of_ble_eq_true rfl) rfl dX7_most_63 ?_
    refine lv_ishl hx hb dX7_most_64 ?_
    refine k_int (v := 1) (by decide +kernel) ?_
    refine lv_icmp_ge (tgt := 160) hx hb dX7_most_65 (by decide) (fun q9 => absurd q9 (by decide +kernel)) (fun _ => ?_)
    refine lv_aload_n hx hb dX7_most_68 rfl (lv_at hl 6 rfl) ?_
    refine k_get (D := (dC, dI)) (ci := 7) (v := .ref (p3 72)) (C := RX7) (T := TX7) (N := 92) hx hb hts hinX7 hown hK hP 4 rfl rfl 72 (by decide) w_3 rfl rfl dX7_most_69 ?_
    refine lv_sipush (v := 1024) hx hb dX7_most_72 (by decide +kernel) ?_
    refine lv_iload hx hb dX7_most_75 (lv_at hl 1 rfl) ?_
    refine lv_imul hx hb dX7_most_77 ?_
    refine k_int (v := 1024) (by decide +kernel) ?_
    refine lv_iload hx hb dX7_most_78 (lv_at hl 0 rfl) ?_
    refine lv_iadd hx hb dX7_most_80 ?_
    refine k_int (v := 1024) (by decide +kernel) ?_
    refine k_iald (v := (-1)) hx hb hK hP 2 0 1024 rfl rfl rfl (Nat.le_of_ble_eq_true rfl) (Nat.le_of_ble_eq_true rfl) rfl dX7_most_81 ?_
    refine lv_istore (lv' := [(7, .int (-1)), (6, .int 0), (5, .int 1), (4, .int 0), (8, .int 0), (3, .int (-1)), (0, .ref p0), (1, .int 8), (2, .int p2)]) hx hb dX7_most_82 hl (by decide) rfl (fun ls hl => ?_)
    refine lv_iload hx hb dX7_most_84 (lv_at hl 0 rfl) ?_
    refine lv_iconst (v := (-1)) hx hb dX7_most_86 (by decide +kernel) ?_
    refine lv_icmp_ne (tgt := 93) hx hb dX7_most_87 (by decide) (fun q9 => absurd q9 (by decide +kernel)) (fun _ => ?_)
    refine lv_goto (tgt := 154) hx hb dX7_most_90 (by decide) ?_
    refine lv_iinc (v := 1) (lv' := [(6, .int 1), (7, .int (-1)), (5, .int 1), (4, .int 0), (8, .int 0), (3, .int (-1)), (0, .ref p0), (1, .int 8), (2, .int p2)]) hx hb dX7_most_154 hl (k := 1) rfl (by decide +kernel) (by decide) rfl (fun ls hl => ?_)
    refine lv_goto (tgt := 52) hx hb dX7_most_157 (by decide) ?_
    refine lv_iload hx hb dX7_most_52 (lv_at hl 0 rfl) ?_
    refine lv_iconst (v := 1) hx hb dX7_most_54 (by decide +kernel) ?_
    refine lv_aload_n hx hb dX7_most_55 rfl (lv_at hl 6 rfl) ?_
    refine k_get (D := (dC, dI)) (ci := 7) (v := .ref (p3 14)) (C := RX7) (T := TX7) (N := 92) hx hb hts hinX7 hown hK hP 4 rfl rfl 14 (by decide) w_1 rfl rfl dX7_most_56 ?_
    refine lv_aload_n hx hb dX7_most_59 rfl (lv_at hl 6 rfl) ?_
    refine k_get (D := (dC, dI)) (ci := 7) (v := .int 0) (C := RX7) (T := TX7) (N := 92) hx hb hts hinX7 hown hK hP 4 rfl rfl 13 (by decide) w_2 rfl rfl dX7_most_60 ?_
    refine k_iald (v := 0) hx hb hK hP 5 0 0 rfl rfl rfl (Nat.le_of_ble_eq_true rfl) (Nat.le_of_ble_eq_true rfl) rfl dX7_most_63 ?_
    refine lv_ishl hx hb dX7_most_64 ?_
    refine k_int (v := 1) (by decide +kernel) ?_
    refine lv_icmp_ge (tgt := 160) hx hb dX7_most_65 (by decide) (fun _ => ?_) (fun q9 => absurd q9 (by decide +kernel))
    refine lv_iinc (v := 2) (lv' := [(5, .int 2), (6, .int 1), (7, .int (-1)), (4, .int 0), (8, .int 0), (3, .int (-1)), (0, .ref p0), (1, .int 8), (2, .int p2)]) hx hb dX7_most_160 hl (k := 2) rfl (by decide +kernel) (by decide) rfl (fun ls hl => ?_)
    refine lv_goto (tgt := 43) hx hb dX7_most_163 (by decide) ?_
    refine lv_iload hx hb dX7_most_43 (lv_at hl 0 rfl) ?_
    refine lv_iload_n hx hb dX7_most_45 rfl (lv_at hl 7 rfl) ?_
    refine lv_icmp_gt (tgt := 166) hx hb dX7_most_46 (by decide) (fun q9 => absurd q9 (by decide +kernel)) (fun _ => ?_)
    refine lv_iconst (v := 0) hx hb dX7_most_49 (by decide +kernel) ?_
    refine lv_istore (lv' := [(6, .int 0), (5, .int 2), (7, .int (-1)), (4, .int 0), (8, .int 0), (3, .int (-1)), (0, .ref p0), (1, .int 8), (2, .int p2)]) hx hb dX7_most_50 hl (by decide) rfl (fun ls hl => ?_)
    refine lv_iload hx hb dX7_most_52 (lv_at hl 0 rfl) ?_
    refine lv_iconst (v := 1) hx hb dX7_most_54 (by decide +kernel) ?_
    refine lv_aload_n hx hb dX7_most_55 rfl (lv_at hl 6 rfl) ?_
    refine k_get (D := (dC, dI)) (ci := 7) (v := .ref (p3 14)) (C := RX7) (T := TX7) (N := 92) hx hb hts hinX7 hown hK hP 4 rfl rfl 14 (by decide) w_1 rfl rfl dX7_most_56 ?_
    refine lv_aload_n hx hb dX7_most_59 rfl (lv_at hl 6 rfl) ?_
    refine k_get (D := (dC, dI)) (ci := 7) (v := .int 0) (C := RX7) (T := TX7) (N := 92) hx hb hts hinX7 hown hK hP 4 rfl rfl 13 (by decide) w_2 rfl rfl dX7_most_60 ?_
    refine k_iald (v := 0) hx hb hK hP 5 0 0 rfl rfl rfl (Nat.le_of_ble_eq_true rfl) (Nat.le_of_ble_eq_true rfl) rfl dX7_most_63 ?_
    refine lv_ishl hx hb dX7_most_64 ?_
    refine k_int (v := 1) (by decide +kernel) ?_
    refine lv_icmp_ge (tgt := 160) hx hb dX7_most_65 (by decide) (fun q9 => absurd q9 (by decide +kernel)) (fun _ => ?_)
    refine lv_aload_n hx hb dX7_most_68 rfl (lv_at hl 6 rfl) ?_
    refine k_get (D := (dC, dI)) (ci := 7) (v := .ref (p3 72)) (C := RX7) (T := TX7) (N := 92) hx hb hts hinX7 hown hK hP 4 rfl rfl 72 (by decide) w_3 rfl rfl dX7_most_69 ?_
    refine lv_sipush (v := 1024) hx hb dX7_most_72 (by decide +kernel) ?_
    refine lv_iload hx hb dX7_most_75 (lv_at hl 1 rfl) ?_
    refine lv_imul hx hb dX7_most_77 ?_
    refine k_int (v := 2048) (by decide +kernel) ?_
    refine lv_iload hx hb dX7_most_78 (lv_at hl 0 rfl) ?_
    refine lv_iadd hx hb dX7_most_80 ?_
    refine k_int (v := 2048) (by decide +kernel) ?_
    refine k_iald (v := (-1)) hx hb hK hP 2 0 2048 rfl rfl rfl (Nat.le_of_ble_eq_true rfl) (Nat.le_of_ble_eq_true rfl) rfl dX7_most_81 ?_
    refine lv_istore (lv' := [(7, .int (-1)), (6, .int 0), (5, .int 2), (4, .int 0), (8, .int 0), (3, .int (-1)), (0, .ref p0), (1, .int 8), (2, .int p2)]) hx hb dX7_most_82 hl (by decide) rfl (fun ls hl => ?_)
    refine lv_iload hx hb dX7_most_84 (lv_at hl 0 rfl) ?_
    refine lv_iconst (v := (-1)) hx hb dX7_most_86 (by decide +kernel) ?_
    refine lv_icmp_ne (tgt := 93) hx hb dX7_most_87 (by decide) (fun q9 => absurd q9 (by decide +kernel)) (fun _ => ?_)
    refine lv_goto (tgt := 154) hx hb dX7_most_90 (by decide) ?_
    refine lv_iinc (v := 1) (lv' := [(6, .int 1), (7, .int (-1)), (5, .int 2), (4, .int 0), (8, .int 0), (3, .int (-1)), (0, .ref p0), (1, .int 8), (2, .int p2)]) hx hb dX7_most_154 hl (k := 1) rfl (by decide +kernel) (by decide) rfl (fun ls hl => ?_)
    refine lv_goto (tgt := 52) hx hb dX7_most_157 (by decide) ?_
    refine lv_iload hx hb dX7_most_52 (lv_at hl 0 rfl) ?_
    refine lv_iconst (v := 1) hx hb dX7_most_54 (by decide +kernel) ?_
    refine lv_aload_n hx hb dX7_most_55 rfl (lv_at hl 6 rfl) ?_
    refine k_get (D := (dC, dI)) (ci := 7) (v := .ref (p3 14)) (C := RX7) (T := TX7) (N := 92) hx hb hts hinX7 hown hK hP 4 rfl rfl 14 (by decide) w_1 rfl rfl dX7_most_56 ?_
    refine lv_aload_n hx hb dX7_most_59 rfl (lv_at hl 6 rfl) ?_
    refine k_get (D := (dC, dI)) (ci := 7) (v := .int 0) (C := RX7) (T := TX7) (N := 92) hx hb hts hinX7 hown hK hP 4 rfl rfl 13 (by decide) w_2 rfl rfl dX7_most_60 ?_
    refine k_iald (v := 0) hx hb hK hP 5 0 0 rfl rfl rfl (Nat.le_of_ble_eq_true rfl) (Nat.le_of_ble_eq_true rfl) rfl dX7_most_63 ?_
    refine lv_ishl hx hb dX7_most_64 ?_
    refine k_int (v := 1) (by decide +kernel) ?_
    refine lv_icmp_ge (tgt := 160) hx hb dX7_most_65 (by decide) (fun _ => ?_) (fun q9 => absurd q9 (by decide +kernel))
    refine lv_iinc (v := 3) (lv' := [(5, .int 3), (6, .int 1), (7, .int (-1)), (4, .int 0), (8, .int 0), (3, .int (-1)), (0, .ref p0), (1, .int 8), (2, .int p2)]) hx hb dX7_most_160 hl (k := 2) rfl (by decide +kernel) (by decide) rfl (fun ls hl => ?_)
    refine lv_goto (tgt := 43) hx hb dX7_most_163 (by decide) ?_
    refine lv_iload hx hb dX7_most_43 (lv_at hl 0 rfl) ?_
    refine lv_iload_n hx hb dX7_most_45 rfl (lv_at hl 7 rfl) ?_
    refine lv_icmp_gt (tgt := 166) hx hb dX7_most_46 (by decide) (fun q9 => absurd q9 (by decide +kernel)) (fun _ => ?_)
    refine lv_iconst (v := 0) hx hb dX7_most_49 (by decide +kernel) ?_
    refine lv_istore (lv' := [(6, .int 0), (5, .int 3), (7, .int (-1)), (4, .int 0), (8, .int 0), (3, .int (-1)), (0, .ref p0), (1, .int 8), (2, .int p2)]) hx hb dX7_most_50 hl (by decide) rfl (fun ls hl => ?_)
    refine lv_iload hx hb dX7_most_52 (lv_at hl 0 rfl) ?_
    refine lv_iconst (v := 1) hx hb dX7_most_54 (by decide +kernel) ?_
    refine lv_aload_n hx hb dX7_most_55 rfl (lv_at hl 6 rfl) ?_
    refine k_get (D := (dC, dI)) (ci := 7) (v := .ref (p3 14)) (C := RX7) (T := TX7) (N := 92) hx hb hts hinX7 hown hK hP 4 rfl rfl 14 (by decide) w_1 rfl rfl dX7_most_56 ?_
    refine lv_aload_n hx hb dX7_most_59 rfl (lv_at hl 6 rfl) ?_
    refine k_get (D := (dC, dI)) (ci := 7) (v := .int 0) (C := RX7) (T := TX7) (N := 92) hx hb hts hinX7 hown hK hP 4 rfl rfl 13 (by decide) w_2 rfl rfl dX7_most_60 ?_
    refine k_iald (v := 0) hx hb hK hP 5 0 0 rfl rfl rfl (Nat.le_of_ble_eq_true rfl) (Nat.le_of_ble_eq_true rfl) rfl dX7_most_63 ?_
    refine lv_ishl hx hb dX7_most_64 ?_
    refine k_int (v := 1) (by decide +kernel) ?_
    refine lv_icmp_ge (tgt := 160) hx hb dX7_most_65 (by decide) (fun q9 => absurd q9 (by decide +kernel)) (fun _ => ?_)
    refine lv_aload_n hx hb dX7_most_68 rfl (lv_at hl 6 rfl) ?_
    refine k_get (D := (dC, dI)) (ci := 7) (v := .ref (p3 72)) (C := RX7) (T := TX7) (N := 92) hx hb hts hinX7 hown hK hP 4 rfl rfl 72 (by decide) w_3 rfl rfl dX7_most_69 ?_
    refine lv_sipush (v := 1024) hx hb dX7_most_72 (by decide +kernel) ?_
    refine lv_iload hx hb dX7_most_75 (lv_at hl 1 rfl) ?_
    refine lv_imul hx hb dX7_most_77 ?_
    refine k_int (v := 3072) (by decide +kernel) ?_
    refine lv_iload hx hb dX7_most_78 (lv_at hl 0 rfl) ?_
    refine lv_iadd hx hb dX7_most_80 ?_
    refine k_int (v := 3072) (by decide +kernel) ?_
    refine k_iald (v := (-1)) hx hb hK hP 2 0 3072 rfl rfl rfl (Nat.le_of_ble_eq_true rfl) (Nat.le_of_ble_eq_true rfl) rfl dX7_most_81 ?_
    refine lv_istore (lv' := [(7, .int (-1)), (6, .int 0), (5, .int 3), (4, .int 0), (8, .int 0), (3, .int (-1)), (0, .ref p0), (1, .int 8), (2, .int p2)]) hx hb dX7_most_82 hl (by decide) rfl (fun ls hl => ?_)
    refine lv_iload hx hb dX7_most_84 (lv_at hl 0 rfl) ?_
    refine lv_iconst (v := (-1)) hx hb dX7_most_86 (by decide +kernel) ?_
    refine lv_icmp_ne (tgt := 93) hx hb dX7_most_87 (by decide) (fun q9 => absurd q9 (by decide +kernel)) (fun _ => ?_)
    refine lv_goto (tgt := 154) hx hb dX7_most_90 (by decide) ?_
    refine lv_iinc (v := 1) (lv' := [(6, .int 1), (7, .int (-1)), (5, .int 3), (4, .int 0), (8, .int 0), (3, .int (-1)), (0, .ref p0), (1, .int 8), (2, .int p2)]) hx hb dX7_most_154 hl (k := 1) rfl (by decide +kernel) (by decide) rfl (fun ls hl => ?_)
    refine lv_goto (tgt := 52) hx hb dX7_most_157 (by decide) ?_
    refine lv_iload hx hb dX7_most_52 (lv_at hl 0 rfl) ?_
    refine lv_iconst (v := 1) hx hb dX7_most_54 (by decide +kernel) ?_
    refine lv_aload_n hx hb dX7_most_55 rfl (lv_at hl 6 rfl) ?_
    refine k_get (D := (dC, dI)) (ci := 7) (v := .ref (p3 14)) (C := RX7) (T := TX7) (N := 92) hx hb hts hinX7 hown hK hP 4 rfl rfl 14 (by decide) w_1 rfl rfl dX7_most_56 ?_
    refine lv_aload_n hx hb dX7_most_59 rfl (lv_at hl 6 rfl) ?_
    refine k_get (D := (dC, dI)) (ci := 7) (v := .int 0) (C := RX7) (T := TX7) (N := 92) hx hb hts hinX7 hown hK hP 4 rfl rfl 13 (by decide) w_2 rfl rfl dX7_most_60 ?_
    refine k_iald (v := 0) hx hb hK hP 5 0 0 rfl rfl rfl (Nat.le_of_ble_eq_true rfl) (Nat.le_of_ble_eq_true rfl) rfl dX7_most_63 ?_
    refine lv_ishl hx hb dX7_most_64 ?_
    refine k_int (v := 1) (by decide +kernel) ?_
    refine lv_icmp_ge (tgt := 160) hx hb dX7_most_65 (by decide) (fun _ => ?_) (fun q9 => absurd q9 (by decide +kernel))
    refine lv_iinc (v := 4) (lv' := [(5, .int 4), (6, .int 1), (7, .int (-1)), (4, .int 0), (8, .int 0), (3, .int (-1)), (0, .ref p0), (1, .int 8), (2, .int p2)]) hx hb dX7_most_160 hl (k := 2) rfl (by decide +kernel) (by decide) rfl (fun ls hl => ?_)
    refine lv_goto (tgt := 43) hx hb dX7_most_163 (by decide) ?_
    refine lv_iload hx hb dX7_most_43 (lv_at hl 0 rfl) ?_
    refine lv_iload_n hx hb dX7_most_45 rfl (lv_at hl 7 rfl) ?_
    refine lv_icmp_gt (tgt := 166) hx hb dX7_most_46 (by decide) (fun q9 => absurd q9 (by decide +kernel)) (fun _ => ?_)
    refine lv_iconst (v := 0) hx hb dX7_most_49 (by decide +kernel) ?_
    refine lv_istore (lv' := [(6, .int 0), (5, .int 4), (7, .int (-1)), (4, .int 0), (8, .int 0), (3, .int (-1)), (0, .ref p0), (1, .int 8), (2, .int p2)]) hx hb dX7_most_50 hl (by decide) rfl (fun ls hl => ?_)
    refine lv_iload hx hb dX7_most_52 (lv_at hl 0 rfl) ?_
    refine lv_iconst (v := 1) hx hb dX7_most_54 (by decide +kernel) ?_
    refine lv_aload_n hx hb dX7_most_55 rfl (lv_at hl 6 rfl) ?_
    refine k_get (D := (dC, dI)) (ci := 7) (v := .ref (p3 14)) (C := RX7) (T := TX7) (N := 92) hx hb hts hinX7 hown hK hP 4 rfl rfl 14 (by decide) w_1 rfl rfl dX7_most_56 ?_
    refine lv_aload_n hx hb dX7_most_59 rfl (lv_at hl 6 rfl) ?_
    refine k_get (D := (dC, dI)) (ci := 7) (v := .int 0) (C := RX7) (T := TX7) (N := 92) hx hb hts hinX7 hown hK hP 4 rfl rfl 13 (by decide) w_2 rfl rfl dX7_most_60 ?_
    refine k_iald (v := 0) hx hb hK hP 5 0 0 rfl rfl rfl (Nat.le_of_ble_eq_true rfl) (Nat.le_of_ble_eq_true rfl) rfl dX7_most_63 ?_
    refine lv_ishl hx hb dX7_most_64 ?_
    refine k_int (v := 1) (by decide +kernel) ?_
    refine lv_icmp_ge (tgt := 160) hx hb dX7_most_65 (by decide) (fun q9 => absurd q9 (by decide +kernel)) (fun _ => ?_)
    refine lv_aload_n hx hb dX7_most_68 rfl (lv_at hl 6 rfl) ?_
    refine k_get (D := (dC, dI)) (ci := 7) (v := .ref (p3 72)) (C := RX7) (T := TX7) (N := 92) hx hb hts hinX7 hown hK hP 4 rfl rfl 72 (by decide) w_3 rfl rfl dX7_most_69 ?_
    refine lv_sipush (v := 1024) hx hb dX7_most_72 (by decide +kernel) ?_
    refine lv_iload hx hb dX7_most_75 (lv_at hl 1 rfl) ?_
    refine lv_imul hx hb dX7_most_77 ?_
    refine k_int (v := 4096) (by decide +kernel) ?_
    refine lv_iload hx hb dX7_most_78 (lv_at hl 0 rfl) ?_
    refine lv_iadd hx hb dX7_most_80 ?_
    refine k_int (v := 4096) (by decide +kernel) ?_
    refine k_iald (v := (-1)) hx hb hK hP 2 0 4096 rfl rfl rfl (Nat.le_of_ble_eq_true rfl) (Nat.le_of_ble_eq_true rfl) rfl dX7_most_81 ?_
    refine lv_istore (lv' := [(7, .int (-1)), (6, .int 0), (5, .int 4), (4, .int 0), (8, .int 0), (3, .int (-1)), (0, .ref p0), (1, .int 8), (2, .int p2)]) hx hb dX7_most_82 hl (by decide) rfl (fun ls hl => ?_)
    refine lv_iload hx hb dX7_most_84 (lv_at hl 0 rfl) ?_
    refine lv_iconst (v := (-1)) hx hb dX7_most_86 (by decide +kernel) ?_
    refine lv_icmp_ne (tgt := 93) hx hb dX7_most_87 (by decide) (fun q9 => absurd q9 (by decide +kernel)) (fun _ => ?_)
    refine lv_goto (tgt := 154) hx hb dX7_most_90 (by decide) ?_
    refine lv_iinc (v := 1) (lv' := [(6, .int 1), (7, .int (-1)), (5, .int 4), (4, .int 0), (8, .int 0), (3, .int (-1)), (0, .ref p0), (1, .int 8), (2, .int p2)]) hx hb dX7_most_154 hl (k := 1) rfl (by decide +kernel) (by decide) rfl (fun ls hl => ?_)
    refine lv_goto (tgt := 52) hx hb dX7_most_157 (by decide) ?_
    refine lv_iload hx hb dX7_most_52 (lv_at hl 0 rfl) ?_
    refine lv_iconst (v := 1) hx hb dX7_most_54 (by decide +kernel) ?_
    refine lv_aload_n hx hb dX7_most_55 rfl (lv_at hl 6 rfl) ?_
    refine k_get (D := (dC, dI)) (ci := 7) (v := .ref (p3 14)) (C := RX7) (T := TX7) (N := 92) hx hb hts hinX7 hown hK hP 4 rfl rfl 14 (by decide) w_1 rfl rfl dX7_most_56 ?_
    refine lv_aload_n hx hb dX7_most_59 rfl (lv_at hl 6 rfl) ?_
    refine k_get (D := (dC, dI)) (ci := 7) (v := .int 0) (C := RX7) (T := TX7) (N := 92) hx hb hts hinX7 hown hK hP 4 rfl rfl 13 (by decide) w_2 rfl rfl dX7_most_60 ?_
    refine k_iald (v := 0) hx hb hK hP 5 0 0 rfl rfl rfl (Nat.le_of_ble_eq_true rfl) (Nat.le_of_ble_eq_true rfl) rfl dX7_most_63 ?_
    refine lv_ishl hx hb dX7_most_64 ?_
    refine k_int (v := 1) (by decide +kernel) ?_
    refine lv_icmp_ge (tgt := 160) hx hb dX7_most_65 (by decide) (fun _ => ?_) (fun q9 => absurd q9 (by decide +kernel))
    refine lv_iinc (v := 5) (lv' := [(5, .int 5), (6, .int 1), (7, .int (-1)), (4, .int 0), (8, .int 0), (3, .int (-1)), (0, .ref p0), (1, .int 8), (2, .int p2)]) hx hb dX7_most_160 hl (k := 2) rfl (by decide +kernel) (by decide) rfl (fun ls hl => ?_)
    refine lv_goto (tgt := 43) hx hb dX7_most_163 (by decide) ?_
    refine lv_iload hx hb dX7_most_43 (lv_at hl 0 rfl) ?_
    refine lv_iload_n hx hb dX7_most_45 rfl (lv_at hl 7 rfl) ?_
    refine lv_icmp_gt (tgt := 166) hx hb dX7_most_46 (by decide) (fun q9 => absurd q9 (by decide +kernel)) (fun _ => ?_)
    refine lv_iconst (v := 0) hx hb dX7_most_49 (by decide +kernel) ?_
    refine lv_istore (lv' := [(6, .int 0), (5, .int 5), (7, .int (-1)), (4, .int 0), (8, .int 0), (3, .int (-1)), (0, .ref p0), (1, .int 8), (2, .int p2)]) hx hb dX7_most_50 hl (by decide) rfl (fun ls hl => ?_)
    refine lv_iload hx hb dX7_most_52 (lv_at hl 0 rfl) ?_
    refine lv_iconst (v := 1) hx hb dX7_most_54 (by decide +kernel) ?_
    refine lv_aload_n hx hb dX7_most_55 rfl (lv_at hl 6 rfl) ?_
    refine k_get (D := (dC, dI)) (ci := 7) (v := .ref (p3 14)) (C := RX7) (T := TX7) (N := 92) hx hb hts hinX7 hown hK hP 4 rfl rfl 14 (by decide) w_1 rfl rfl dX7_most_56 ?_
    refine lv_aload_n hx hb dX7_most_59 rfl (lv_at hl 6 rfl) ?_
    refine k_get (D := (dC, dI)) (ci := 7) (v := .int 0) (C := RX7) (T := TX7) (N := 92) hx hb hts hinX7 hown hK hP 4 rfl rfl 13 (by decide) w_2 rfl rfl dX7_most_60 ?_
    refine k_iald (v := 0) hx hb hK hP 5 0 0 rfl rfl rfl (Nat.le_of_ble_eq_true rfl) (Nat.le_of_ble_eq_true rfl) rfl dX7_most_63 ?_
    refine lv_ishl hx hb dX7_most_64 ?_
    refine k_int (v := 1) (by decide +kernel) ?_
    refine lv_icmp_ge (tgt := 160) hx hb dX7_most_65 (by decide) (fun q9 => absurd q9 (by decide +kernel)) (fun _ => ?_)
    refine lv_aload_n hx hb dX7_most_68 rfl (lv_at hl 6 rfl) ?_
    refine k_get (D := (dC, dI)) (ci := 7) (v := .ref (p3 72)) (C := RX7) (T := TX7) (N := 92) hx hb hts hinX7 hown hK hP 4 rfl rfl 72 (by decide) w_3 rfl rfl dX7_most_69 ?_
    refine lv_sipush (v := 1024) hx hb dX7_most_72 (by decide +kernel) ?_
    refine lv_iload hx hb dX7_most_75 (lv_at hl 1 rfl) ?_
    refine lv_imul hx hb dX7_most_77 ?_
    refine k_int (v := 5120) (by decide +kernel) ?_
    refine lv_iload hx hb dX7_most_78 (lv_at hl 0 rfl) ?_
    refine lv_iadd hx hb dX7_most_80 ?_
    refine k_int (v := 5120) (by decide +kernel) ?_
    refine k_iald (v := (-1)) hx hb hK hP 2 0 5120 rfl rfl rfl (Nat.le_of_ble_eq_true rfl) (Nat.le_of_ble_eq_true rfl) rfl dX7_most_81 ?_
    refine lv_istore (lv' := [(7, .int (-1)), (6, .int 0), (5, .int 5), (4, .int 0), (8, .int 0), (3, .int (-1)), (0, .ref p0), (1, .int 8), (2, .int p2)]) hx hb dX7_most_82 hl (by decide) rfl (fun ls hl => ?_)
    refine lv_iload hx hb dX7_most_84 (lv_at hl 0 rfl) ?_
    refine lv_iconst (v := (-1)) hx hb dX7_most_86 (by decide +kernel) ?_
    refine lv_icmp_ne (tgt := 93) hx hb dX7_most_87 (by decide) (fun q9 => absurd q9 (by decide +kernel)) (fun _ => ?_)
    refine lv_goto (tgt := 154) hx hb dX7_most_90 (by decide) ?_
    refine lv_iinc (v := 1) (lv' := [(6, .int 1), (7, .int (-1)), (5, .int 5), (4, .int 0), (8, .int 0), (3, .int (-1)), (0, .ref p0), (1, .int 8), (2, .int p2)]) hx hb dX7_most_154 hl (k := 1) rfl (by decide +kernel) (by decide) rfl (fun ls hl => ?_)
    refine lv_goto (tgt := 52) hx hb dX7_most_157 (by decide) ?_
    refine lv_iload hx hb dX7_most_52 (lv_at hl 0 rfl) ?_
    refine lv_iconst (v := 1) hx hb dX7_most_54 (by decide +kernel) ?_
    refine lv_aload_n hx hb dX7_most_55 rfl (lv_at hl 6 rfl) ?_
    refine k_get (D := (dC, dI)) (ci := 7) (v := .ref (p3 14)) (C := RX7) (T := TX7) (N := 92) hx hb hts hinX7 hown hK hP 4 rfl rfl 14 (by decide) w_1 rfl rfl dX7_most_56 ?_
    refine lv_aload_n hx hb dX7_most_59 rfl (lv_at hl 6 rfl) ?_
    refine k_get (D := (dC, dI)) (ci := 7) (v := .int 0) (C := RX7) (T := TX7) (N := 92) hx hb hts hinX7 hown hK hP 4 rfl rfl 13 (by decide) w_2 rfl rfl dX7_most_60 ?_
    refine k_iald (v := 0) hx hb hK hP 5 0 0 rfl rfl rfl (Nat.le_of_ble_eq_true rfl) (Nat.le_of_ble_eq_true rfl) rfl dX7_most_63 ?_
    refine lv_ishl hx hb dX7_most_64 ?_
    refine k_int (v := 1) (by decide +kernel) ?_
    refine lv_icmp_ge (tgt := 160) hx hb dX7_most_65 (by decide) (fun _ => ?_) (fun q9 => absurd q9 (by decide +kernel))
    refine lv_iinc (v := 6) (lv' := [(5, .int 6), (6, .int 1), (7, .int (-1)), (4, .int 0), (8, .int 0), (3, .int (-1)), (0, .ref p0), (1, .int 8), (2, .int p2)]) hx hb dX7_most_160 hl (k := 2) rfl (by decide +kernel) (by decide) rfl (fun ls hl => ?_)
    refine lv_goto (tgt := 43) hx hb dX7_most_163 (by decide) ?_
    refine lv_iload hx hb dX7_most_43 (lv_at hl 0 rfl) ?_
    refine lv_iload_n hx hb dX7_most_45 rfl (lv_at hl 7 rfl) ?_
    refine lv_icmp_gt (tgt := 166) hx hb dX7_most_46 (by decide) (fun q9 => absurd q9 (by decide +kernel)) (fun _ => ?_)
    refine lv_iconst (v := 0) hx hb dX7_most_49 (by decide +kernel) ?_
    refine lv_istore (lv' := [(6, .int 0), (5, .int 6), (7, .int (-1)), (4, .int 0), (8, .int 0), (3, .int (-1)), (0, .ref p0), (1, .int 8), (2, .int p2)]) hx hb dX7_most_50 hl (by decide) rfl (fun ls hl => ?_)
    refine lv_iload hx hb dX7_most_52 (lv_at hl 0 rfl) ?_
    refine lv_iconst (v := 1) hx hb dX7_most_54 (by decide +kernel) ?_
    refine lv_aload_n hx hb dX7_most_55 rfl (lv_at hl 6 rfl) ?_
    refine k_get (D := (dC, dI)) (ci := 7) (v := .ref (p3 14)) (C := RX7) (T := TX7) (N := 92) hx hb hts hinX7 hown hK hP 4 rfl rfl 14 (by decide) w_1 rfl rfl dX7_most_56 ?_
    refine lv_aload_n hx hb dX7_most_59 rfl (lv_at hl 6 rfl) ?_
    refine k_get (D := (dC, dI)) (ci := 7) (v := .int 0) (C := RX7) (T := TX7) (N := 92) hx hb hts hinX7 hown hK hP 4 rfl rfl 13 (by decide) w_2 rfl rfl dX7_most_60 ?_
    refine k_iald (v := 0) hx hb hK hP 5 0 0 rfl rfl rfl (Nat.le_of_ble_eq_true rfl) (Nat.le_of_ble_eq_true rfl) rfl dX7_most_63 ?_
    refine lv_ishl hx hb dX7_most_64 ?_
    refine k_int (v := 1) (by decide +kernel) ?_
    refine lv_icmp_ge (tgt := 160) hx hb dX7_most_65 (by decide) (fun q9 => absurd q9 (by decide +kernel)) (fun _ => ?_)
    refine lv_aload_n hx hb dX7_most_68 rfl (lv_at hl 6 rfl) ?_
    refine k_get (D := (dC, dI)) (ci := 7) (v := .ref (p3 72)) (C := RX7) (T := TX7) (N := 92) hx hb hts hinX7 hown hK hP 4 rfl rfl 72 (by decide) w_3 rfl rfl dX7_most_69 ?_
    refine lv_sipush (v := 1024) hx hb dX7_most_72 (by decide +kernel) ?_
    refine lv_iload hx hb dX7_most_75 (lv_at hl 1 rfl) ?_
    refine lv_imul hx hb dX7_most_77 ?_
    refine k_int (v := 6144) (by decide +kernel) ?_
    refine lv_iload hx hb dX7_most_78 (lv_at hl 0 rfl) ?_
    refine lv_iadd hx hb dX7_most_80 ?_
    refine k_int (v := 6144) (by decide +kernel) ?_
    refine k_iald (v := (-1)) hx hb hK hP 2 0 6144 rfl rfl rfl (Nat.le_of_ble_eq_true rfl) (Nat.le_of_ble_eq_true rfl) rfl dX7_most_81 ?_
    refine lv_istore (lv' := [(7, .int (-1)), (6, .int 0), (5, .int 6), (4, .int 0), (8, .int 0), (3, .int (-1)), (0, .ref p0), (1, .int 8), (2, .int p2)]) hx hb dX7_most_82 hl (by decide) rfl (fun ls hl => ?_)
    refine lv_iload hx hb dX7_most_84 (lv_at hl 0 rfl) ?_
    refine lv_iconst (v := (-1)) hx hb dX7_most_86 (by decide +kernel) ?_
    refine lv_icmp_ne (tgt := 93) hx hb dX7_most_87 (by decide) (fun q9 => absurd q9 (by decide +kernel)) (fun _ => ?_)
    refine lv_goto (tgt := 154) hx hb dX7_most_90 (by decide) ?_
    refine lv_iinc (v := 1) (lv' := [(6, .int 1), (7, .int (-1)), (5, .int 6), (4, .int 0), (8, .int 0), (3, .int (-1)), (0, .ref p0), (1, .int 8), (2, .int p2)]) hx hb dX7_most_154 hl (k := 1) rfl (by decide +kernel) (by decide) rfl (fun ls hl => ?_)
    refine lv_goto (tgt := 52) hx hb dX7_most_157 (by decide) ?_
    refine lv_iload hx hb dX7_most_52 (lv_at hl 0 rfl) ?_
    refine lv_iconst (v := 1) hx hb dX7_most_54 (by decide +kernel) ?_
    refine lv_aload_n hx hb dX7_most_55 rfl (lv_at hl 6 rfl) ?_
    refine k_get (D := (dC, dI)) (ci := 7) (v := .ref (p3 14)) (C := RX7) (T := TX7) (N := 92) hx hb hts hinX7 hown hK hP 4 rfl rfl 14 (by decide) w_1 rfl rfl dX7_most_56 ?_
    refine lv_aload_n hx hb dX7_most_59 rfl (lv_at hl 6 rfl) ?_
    refine k_get (D := (dC, dI)) (ci := 7) (v := .int 0) (C := RX7) (T := TX7) (N := 92) hx hb hts hinX7 hown hK hP 4 rfl rfl 13 (by decide) w_2 rfl rfl dX7_most_60 ?_
    refine k_iald (v := 0) hx hb hK hP 5 0 0 rfl rfl rfl (Nat.le_of_ble_eq_true rfl) (Nat.le_of_ble_eq_true rfl) rfl dX7_most_63 ?_
    refine lv_ishl hx hb dX7_most_64 ?_
    refine k_int (v := 1) (by decide +kernel) ?_
    refine lv_icmp_ge (tgt := 160) hx hb dX7_most_65 (by decide) (fun _ => ?_) (fun q9 => absurd q9 (by decide +kernel))
    refine lv_iinc (v := 7) (lv' := [(5, .int 7), (6, .int 1), (7, .int (-1)), (4, .int 0), (8, .int 0), (3, .int (-1)), (0, .ref p0), (1, .int 8), (2, .int p2)]) hx hb dX7_most_160 hl (k := 2) rfl (by decide +kernel) (by decide) rfl (fun ls hl => ?_)
    refine lv_goto (tgt := 43) hx hb dX7_most_163 (by decide) ?_
    refine lv_iload hx hb dX7_most_43 (lv_at hl 0 rfl) ?_
    refine lv_iload_n hx hb dX7_most_45 rfl (lv_at hl 7 rfl) ?_
    refine lv_icmp_gt (tgt := 166) hx hb dX7_most_46 (by decide) (fun q9 => absurd q9 (by decide +kernel)) (fun _ => ?_)
    refine lv_iconst (v := 0) hx hb dX7_most_49 (by decide +kernel) ?_
    refine lv_istore (lv' := [(6, .int 0), (5, .int 7), (7, .int (-1)), (4, .int 0), (8, .int 0), (3, .int (-1)), (0, .ref p0), (1, .int 8), (2, .int p2)]) hx hb dX7_most_50 hl (by decide) rfl (fun ls hl => ?_)
    refine lv_iload hx hb dX7_most_52 (lv_at hl 0 rfl) ?_
    refine lv_iconst (v := 1) hx hb dX7_most_54 (by decide +kernel) ?_
    refine lv_aload_n hx hb dX7_most_55 rfl (lv_at hl 6 rfl) ?_
    refine k_get (D := (dC, dI)) (ci := 7) (v := .ref (p3 14)) (C := RX7) (T := TX7) (N := 92) hx hb hts hinX7 hown hK hP 4 rfl rfl 14 (by decide) w_1 rfl rfl dX7_most_56 ?_
    refine lv_aload_n hx hb dX7_most_59 rfl (lv_at hl 6 rfl) ?_
    refine k_get (D := (dC, dI)) (ci := 7) (v := .int 0) (C := RX7) (T := TX7) (N := 92) hx hb hts hinX7 hown hK hP 4 rfl rfl 13 (by decide) w_2 rfl rfl dX7_most_60 ?_
    refine k_iald (v := 0) hx hb hK hP 5 0 0 rfl rfl rfl (Nat.le_of_ble_eq_true rfl) (Nat.le_of_ble_eq_true rfl) rfl dX7_most_63 ?_
    refine lv_ishl hx hb dX7_most_64 ?_
    refine k_int (v := 1) (by decide +kernel) ?_
    refine lv_icmp_ge (tgt := 160) hx hb dX7_most_65 (by decide) (fun q9 => absurd q9 (by decide +kernel)) (fun _ => ?_)
    refine lv_aload_n hx hb dX7_most_68 rfl (lv_at hl 6 rfl) ?_
    refine k_get (D := (dC, dI)) (ci := 7) (v := .ref (p3 72)) (C := RX7) (T := TX7) (N := 92) hx hb hts hinX7 hown hK hP 4 rfl rfl 72 (by decide) w_3 rfl rfl dX7_most_69 ?_
    refine lv_sipush (v := 1024) hx hb dX7_most_72 (by decide +kernel) ?_
    refine lv_iload hx hb dX7_most_75 (lv_at hl 1 rfl) ?_
    refine lv_imul hx hb dX7_most_77 ?_
    refine k_int (v := 7168) (by decide +kernel) ?_
    refine lv_iload hx hb dX7_most_78 (lv_at hl 0 rfl) ?_
    refine lv_iadd hx hb dX7_most_80 ?_
    refine k_int (v := 7168) (by decide +kernel) ?_
    refine k_iald (v := (-1)) hx hb hK hP 2 0 7168 rfl rfl rfl (Nat.le_of_ble_eq_true rfl) (Nat.le_of_ble_eq_true rfl) rfl dX7_most_81 ?_
    refine lv_istore (lv' := [(7, .int (-1)), (6, .int 0), (5, .int 7), (4, .int 0), (8, .int 0), (3, .int (-1)), (0, .ref p0), (1, .int 8), (2, .int p2)]) hx hb dX7_most_82 hl (by decide) rfl (fun ls hl => ?_)
    refine lv_iload hx hb dX7_most_84 (lv_at hl 0 rfl) ?_
    refine lv_iconst (v := (-1)) hx hb dX7_most_86 (by decide +kernel) ?_
    refine lv_icmp_ne (tgt := 93) hx hb dX7_most_87 (by decide) (fun q9 => absurd q9 (by decide +kernel)) (fun _ => ?_)
    refine lv_goto (tgt := 154) hx hb dX7_most_90 (by decide) ?_
    refine lv_iinc (v := 1) (lv' := [(6, .int 1), (7, .int (-1)), (5, .int 7), (4, .int 0), (8, .int 0), (3, .int (-1)), (0, .ref p0), (1, .int 8), (2, .int p2)]) hx hb dX7_most_154 hl (k := 1) rfl (by decide +kernel) (by decide) rfl (fun ls hl => ?_)
    refine lv_goto (tgt := 52) hx hb dX7_most_157 (by decide) ?_
    refine lv_iload hx hb dX7_most_52 (lv_at hl 0 rfl) ?_
    refine lv_iconst (v := 1) hx hb dX7_most_54 (by decide +kernel) ?_
    refine lv_aload_n hx hb dX7_most_55 rfl (lv_at hl 6 rfl) ?_
    refine k_get (D := (dC, dI)) (ci := 7) (v := .ref (p3 14)) (C := RX7) (T := TX7) (N := 92) hx hb hts hinX7 hown hK hP 4 rfl rfl 14 (by decide) w_1 rfl rfl dX7_most_56 ?_
    refine lv_aload_n hx hb dX7_most_59 rfl (lv_at hl 6 rfl) ?_
    refine k_get (D := (dC, dI)) (ci := 7) (v := .int 0) (C := RX7) (T := TX7) (N := 92) hx hb hts hinX7 hown hK hP 4 rfl rfl 13 (by decide) w_2 rfl rfl dX7_most_60 ?_
    refine k_iald (v := 0) hx hb hK hP 5 0 0 rfl rfl rfl (Nat.le_of_ble_eq_true rfl) (Nat.le_of_ble_eq_true rfl) rfl dX7_most_63 ?_
    refine lv_ishl hx hb dX7_most_64 ?_
    refine k_int (v := 1) (by decide +kernel) ?_
    refine lv_icmp_ge (tgt := 160) hx hb dX7_most_65 (by decide) (fun _ => ?_) (fun q9 => absurd q9 (by decide +kernel))
    refine lv_iinc (v := 8) (lv' := [(5, .int 8), (6, .int 1), (7, .int (-1)), (4, .int 0), (8, .int 0), (3, .int (-1)), (0, .ref p0), (1, .int 8), (2, .int p2)]) hx hb dX7_most_160 hl (k := 2) rfl (by decide +kernel) (by decide) rfl (fun ls hl => ?_)
    refine lv_goto (tgt := 43) hx hb dX7_most_163 (by decide) ?_
    refine lv_iload hx hb dX7_most_43 (lv_at hl 0 rfl) ?_
    refine lv_iload_n hx hb dX7_most_45 rfl (lv_at hl 7 rfl) ?_
    refine lv_icmp_gt (tgt := 166) hx hb dX7_most_46 (by decide) (fun q9 => absurd q9 (by decide +kernel)) (fun _ => ?_)
    refine lv_iconst (v := 0) hx hb dX7_most_49 (by decide +kernel) ?_
    refine lv_istore (lv' := [(6, .int 0), (5, .int 8), (7, .int (-1)), (4, .int 0), (8, .int 0), (3, .int (-1)), (0, .ref p0), (1, .int 8), (2, .int p2)]) hx hb dX7_most_50 hl (by decide) rfl (fun ls hl => ?_)
    refine lv_iload hx hb dX7_most_52 (lv_at hl 0 rfl) ?_
    refine lv_iconst (v := 1) hx hb dX7_most_54 (by decide +kernel) ?_
    refine lv_aload_n hx hb dX7_most_55 rfl (lv_at hl 6 rfl) ?_
    refine k_get (D := (dC, dI)) (ci := 7) (v := .ref (p3 14)) (C := RX7) (T := TX7) (N := 92) hx hb hts hinX7 hown hK hP 4 rfl rfl 14 (by decide) w_1 rfl rfl dX7_most_56 ?_
    refine lv_aload_n hx hb dX7_most_59 rfl (lv_at hl 6 rfl) ?_
    refine k_get (D := (dC, dI)) (ci := 7) (v := .int 0) (C := RX7) (T := TX7) (N := 92) hx hb hts hinX7 hown hK hP 4 rfl rfl 13 (by decide) w_2 rfl rfl dX7_most_60 ?_
    refine k_iald (v := 0) hx hb hK hP 5 0 0 rfl rfl rfl (Nat.le_of_ble_eq_true rfl) (Nat.le_of_ble_eq_true rfl) rfl dX7_most_63 ?_
    refine lv_ishl hx hb dX7_most_64 ?_
    refine k_int (v := 1) (by decide +kernel) ?_
    refine lv_icmp_ge (tgt := 160) hx hb dX7_most_65 (by decide) (fun q9 => absurd q9 (by decide +kernel)) (fun _ => ?_)
    refine lv_aload_n hx hb dX7_most_68 rfl (lv_at hl 6 rfl) ?_
    refine k_get (D := (dC, dI)) (ci := 7) (v := .ref (p3 72)) (C := RX7) (T := TX7) (N := 92) hx hb hts hinX7 hown hK hP 4 rfl rfl 72 (by decide) w_3 rfl rfl dX7_most_69 ?_
    refine lv_sipush (v := 1024) hx hb dX7_most_72 (by decide +kernel) ?_
    refine lv_iload hx hb dX7_most_75 (lv_at hl 1 rfl) ?_
    refine lv_imul hx hb dX7_most_77 ?_
    refine k_int (v := 8192) (by decide +kernel) ?_
    refine lv_iload hx hb dX7_most_78 (lv_at hl 0 rfl) ?_
    refine lv_iadd hx hb dX7_most_80 ?_
    refine k_int (v := 8192) (by decide +kernel) ?_
    refine k_iald (v := (-1)) hx hb hK hP 2 0 8192 rfl rfl rfl (Nat.le_of_ble_eq_true rfl) (Nat.le_of_ble_eq_true rfl) rfl dX7_most_81 ?_
    refine lv_istore (lv' := [(7, .int (-1)), (6, .int 0), (5, .int 8), (4, .int 0), (8, .int 0), (3, .int (-1)), (0, .ref p0), (1, .int 8), (2, .int p2)]) hx hb dX7_most_82 hl (by decide) rfl (fun ls hl => ?_)
    refine lv_iload hx hb dX7_most_84 (lv_at hl 0 rfl) ?_
    refine lv_iconst (v := (-1)) hx hb dX7_most_86 (by decide +kernel) ?_
    refine lv_icmp_ne (tgt := 93) hx hb dX7_most_87 (by decide) (fun q9 => absurd q9 (by decide +kernel)) (fun _ => ?_)
    refine lv_goto (tgt := 154) hx hb dX7_most_90 (by decide) ?_
    refine lv_iinc (v := 1) (lv' := [(6, .int 1), (7, .int (-1)), (5, .int 8), (4, .int 0), (8, .int 0), (3, .int (-1)), (0, .ref p0), (1, .int 8), (2, .int p2)]) hx hb dX7_most_154 hl (k := 1) rfl (by decide +kernel) (by decide) rfl (fun ls hl => ?_)
    refine lv_goto (tgt := 52) hx hb dX7_most_157 (by decide) ?_
    refine lv_iload hx hb dX7_most_52 (lv_at hl 0 rfl) ?_
    refine lv_iconst (v := 1) hx hb dX7_most_54 (by decide +kernel) ?_
    refine lv_aload_n hx hb dX7_most_55 rfl (lv_at hl 6 rfl) ?_
    refine k_get (D := (dC, dI)) (ci := 7) (v := .ref (p3 14)) (C := RX7) (T := TX7) (N := 92) hx hb hts hinX7 hown hK hP 4 rfl rfl 14 (by decide) w_1 rfl rfl dX7_most_56 ?_
    refine lv_aload_n hx hb dX7_most_59 rfl (lv_at hl 6 rfl) ?_
    refine k_get (D := (dC, dI)) (ci := 7) (v := .int 0) (C := RX7) (T := TX7) (N := 92) hx hb hts hinX7 hown hK hP 4 rfl rfl 13 (by decide) w_2 rfl rfl dX7_most_60 ?_
    refine k_iald (v := 0) hx hb hK hP 5 0 0 rfl rfl rfl (Nat.le_of_ble_eq_true rfl) (Nat.le_of_ble_eq_true rfl) rfl dX7_most_63 ?_
    refine lv_ishl hx hb dX7_most_64 ?_
    refine k_int (v := 1) (by decide +kernel) ?_
    refine lv_icmp_ge (tgt := 160) hx hb dX7_most_65 (by decide) (fun _ => ?_) (fun q9 => absurd q9 (by decide +kernel))
    refine lv_iinc (v := 9) (lv' := [(5, .int 9), (6, .int 1), (7, .int (-1)), (4, .int 0), (8, .int 0), (3, .int (-1)), (0, .ref p0), (1, .int 8), (2, .int p2)]) hx hb dX7_most_160 hl (k := 2) rfl (by decide +kernel) (by decide) rfl (fun ls hl => ?_)
    refine lv_goto (tgt := 43) hx hb dX7_most_163 (by decide) ?_
    refine lv_iload hx hb dX7_most_43 (lv_at hl 0 rfl) ?_
    refine lv_iload_n hx hb dX7_most_45 rfl (lv_at hl 7 rfl) ?_
    refine lv_icmp_gt (tgt := 166) hx hb dX7_most_46 (by decide) (fun _ => ?_) (fun q9 => absurd q9 (by decide +kernel))
    refine lv_iload_n hx hb dX7_most_166 rfl (lv_at hl 8 rfl) ?_
    refine lv_if_ne (tgt := 175) hx hb dX7_most_167 (by decide) (fun c_108 => ?_) (fun c_108 => ?_)
    · have c_108 : ¬ p2.toInt = 0 := k_eqF rfl (by decide +kernel) c_108
      refine lv_iload_n hx hb dX7_most_175 rfl (lv_at hl 8 rfl) ?_
      refine lv_iconst (v := 1) hx hb dX7_most_176 (by decide +kernel) ?_
      refine lv_icmp_ne (tgt := 187) hx hb dX7_most_177 (by decide) (fun c_109 => ?_) (fun c_109 => ?_)
      · have c_109 : ¬ p2.toInt = 1 := k_eqF rfl (by decide +kernel) c_109
        exfalso; omega
      · have c_109 : p2.toInt = 1 := k_eqT rfl (by decide +kernel) c_109
        refine lv_aload_n hx hb dX7_most_180 rfl (lv_at hl 6 rfl) ?_
        refine k_get (D := (dC, dI)) (ci := 7) (v := .int 0) (C := RX7) (T := TX7) (N := 92) hx hb hts hinX7 hown hK hP 4 rfl rfl 75 (by decide) w_0 rfl rfl dX7_most_181 ?_
        refine lv_goto (tgt := 203) hx hb dX7_most_184 (by decide) ?_
        exact k_ri B hP hD hS dX7_most_203 () [4, 0, 1, 2, 5, 3] rfl rfl rfl (Nat.le_of_ble_eq_true rfl) (Nat.le_of_ble_eq_true rfl) rfl
    · have c_108 : p2.toInt = 0 := k_eqT rfl (by decide +kernel) c_108
      exfalso; omega
