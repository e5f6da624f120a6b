set_option maxHeartbeats 4000000 in
set_option maxRecDepth 100000 in
theorem c_X7_refuses_v2 (l : Launch) (dC : Nat → ClassId) (dI : Nat → Nat → Nat) (cI cJ cZ cM : ClassId) (p0 : Nat) (p1 : Nat → Nat)   : k_Mi l yX7_refuses wsX7_refuses ({ frames := 1, cells := 0, slots := 0, locals := 40 }) (dC, dI) vwCl (tyy cI cJ cZ cM) [(p0, .inr (7, oM p1 i7 j7)), ((p1 48), .inl (cI, 6, .inl (fun _ => 0)))] [.ref p0, .int 3] 0 0 (fun (u9 : Unit) => [(p0, .inr (7, oM p1 i7 j7)), ((p1 48), .inl (cI, 6, .inl (upd (fun _ => 0) 3 1)))]) (fun (r9 : Int32) (u9 : Unit) => r9 = (-1)) := by
  refine fun sz => k_enter (cc := cX7_refuses) (maxL := 2) (ret := some (.int)) (Qc := fun A => va_Qi (fun (r9 : Int32) (u9 : Unit) => r9 = (-1)) (fun u => k_B (dC, dI) vwCl (tyy cI cJ cZ cM) A ((fun (u9 : Unit) => [(p0, .inr (7, oM p1 i7 j7)), ((p1 48), .inl (cI, 6, .inl (upd (fun _ => 0) 3 1)))]) u)) A) sz (by decide +kernel) rfl (Nat.le_of_ble_eq_true rfl) (fun p e s m args below meth c A ls H locs B hP hD hS hl => ?_)
  obtain ⟨hx, hb, hml, hown, hts, hr, hlk, hnm, hK, hA, hN, hC⟩ := id B
  have hown : s.vm.findClass RX7 = some m.cls := hown
  have hl : lv_has ls 2 [(0, .ref p0), (1, .int 3)] := hl
  have w_0 : (Cond.fieldLink RX7 159 "WishSeaModel" "refused" "[I").before args s = true := hts _ (List.mem_of_getElem? (i := 1) rfl)
  have hinX7 : ∀ w ∈ u_ws RX7 TX7 92, w ∈ wsX7_refuses := fun _ h => List.mem_cons_of_mem _ (List.mem_append_right _ h)
  refine lv_aload_n hx hb dX7_refuses_0 rfl (lv_at hl 0 rfl) ?_
  refine k_get (D := (dC, dI)) (ci := 7) (v := .ref (p1 48)) (C := RX7) (T := TX7) (N := 92) hx hb hts hinX7 hown hK hP 0 rfl rfl 48 (by decide) w_0 rfl rfl dX7_refuses_1 ?_
  refine lv_iload_n hx hb dX7_refuses_4 rfl (lv_at hl 1 rfl) ?_
  refine lv_dup2_11 hx hb dX7_refuses_5 rfl rfl ?_
  refine k_iald (v := 0) hx hb hK hP 1 0 3 rfl rfl rfl (Nat.le_of_ble_eq_true rfl) (Nat.le_of_ble_eq_true rfl) rfl dX7_refuses_6 ?_
  refine lv_iconst (v := 1) hx hb dX7_refuses_7 (by decide +kernel) ?_
  refine lv_iadd hx hb dX7_refuses_8 ?_
  refine k_int (v := 1) (by decide +kernel) ?_
  refine k_iast (g := (upd (fun _ => 0) 3 1)) (ws' := [(p0, .inr (7, oM p1 i7 j7)), ((p1 48), .inl (cI, 6, .inl (upd (fun _ => 0) 3 1)))]) hx hb hK hP hD hS 1 0 3 rfl rfl rfl (Nat.le_of_ble_eq_true rfl) (Nat.le_of_ble_eq_true rfl) rfl rfl dX7_refuses_9 (fun H locs hP hD hS => ?_)
  refine lv_iconst (v := (-1)) hx hb dX7_refuses_10 (by decide +kernel) ?_
  exact k_ri B hP hD hS dX7_refuses_11 () [0, 1] rfl rfl rfl (Nat.le_of_ble_eq_true rfl) (Nat.le_of_ble_eq_true rfl) rfl
set_option maxHeartbeats 4000000 in
set_option maxRecDepth 100000 in
theorem c_X7_days_v0 (l : Launch) (dC : Nat → ClassId) (dI : Nat → Nat → Nat) (cI cJ cZ cM : ClassId) (p0 : Nat) (p1 : Int32) (p2 : Nat → Nat) (b_0 : -2147483648 ≤ p1.toInt) (t_0 : p1.toInt ≤ 0)  : k_Mi l yX7_days wsX7_days ({ frames := 2, cells := 0, slots := 0, locals := 62 }) (dC, dI) vwCl (tyy cI cJ cZ cM) [(p0, .inr (7, oM p2 i7 j7)), ((p2 48), .inl (cI, 6, .inl (fun _ => 0)))] [.ref p0, .int p1] 0 0 (fun (u9 : Unit) => [(p0, .inr (7, oM p2 i7 j7)), ((p2 48), .inl (cI, 6, .inl (upd (fun _ => 0) 3 1)))]) (fun (r9 : Int32) (u9 : Unit) => r9 = (-1)) := by
  refine fun sz => k_enter (cc := cX7_days) (maxL := 6) (ret := some (.int)) (Qc := fun A => va_Qi (fun (r9 : Int32) (u9 : Unit) => r9 = (-1)) (fun u => k_B (dC, dI) vwCl (tyy cI cJ cZ cM) A ((fun (u9 : Unit) => [(p0, .inr (7, oM p2 i7 j7)), ((p2 48), .inl (cI, 6, .inl (upd (fun _ => 0) 3 1)))]) u)) A) sz (by decide +kernel) rfl (Nat.le_of_ble_eq_true rfl) (fun p e s m args below meth c A ls H locs B hP hD hS hl => ?_)
  obtain ⟨hx, hb, hml, hown, hts, hr, hlk, hnm, hK, hA, hN, hC⟩ := id B
  have hown : s.vm.findClass RX7 = some m.cls := hown
  have hl : lv_has ls 6 [(0, .ref p0), (1, .int p1)] := hl
  refine lv_iload_n hx hb dX7_days_0 rfl (lv_at hl 1 rfl) ?_
  refine lv_iconst (v := 1) hx hb dX7_days_1 (by decide +kernel) ?_
  refine lv_bipush (v := 40) hx hb dX7_days_2 (by decide +kernel) ?_
  refine k_ci (wc := []) (wr := [(p0, .inr (7, oM p2 i7 j7)), ((p2 48), .inl (cI, 6, .inl (fun _ => 0)))]) (fun hPc hDc hFc => va_runS (As := [.int p1, .int 1, .int 40]) (rest := []) ⟨hx, hb, hml, hown, hts⟩ (c_X7_is_v2 l dC dI cI cJ cZ cM p1 (by omega) (by omega) H.size) (va_cwS 3 hts gX7_days_X7_is rfl rfl rfl (by decide +kernel) ⟨(Nat.le_of_ble_eq_true rfl), (Nat.le_of_ble_eq_true rfl)⟩) (k_pS hPc hDc hK hN hC hS hFc) rfl rfl hl.1 rfl (lv_room (Nat.le_of_ble_eq_true rfl)) dX7_days_4 ⟨(Nat.le_of_ble_eq_true rfl), (Nat.le_of_ble_eq_true rfl)⟩) hP hD hS hA [] [0, 1] rfl rfl rfl rfl (by decide) (fun _ => rfl) 0 0 rfl rfl (fun r_1 u_2 H locs hw hP hD hS => ?_)
  obtain rfl : r_1 = 0 := hw
  have hP : va_P (dC, dI) vwCl [(p0, .inr (7, oM p2 i7 j7)), ((p2 48), .inl (cI, 6, .inl (fun _ => 0)))] H := hP
  have hD : va_D A [(p0, .inr (7, oM p2 i7 j7)), ((p2 48), .inl (cI, 6, .inl (fun _ => 0)))] := hD
  refine lv_if_eq (tgt := 24) hx hb dX7_days_7 (by decide) (fun _ => ?_) (fun q9 => absurd q9 (by decide +kernel))
  refine lv_aload_n hx hb dX7_days_24 rfl (lv_at hl 0 rfl) ?_
  refine lv_iconst (v := 3) hx hb dX7_days_25 (by decide +kernel) ?_
  refine k_ci (wc := [(p0, .inr (7, oM p2 i7 j7)), ((p2 48), .inl (cI, 6, .inl (fun _ => 0)))]) (wr := []) (fun hPc hDc hFc => va_runV (As := [.int 3]) (rest := []) ⟨hx, hb, hml, hown, hts⟩ (c_X7_refuses_v2 l dC dI cI cJ cZ cM p0 p2 H.size) (cwV 1 hts gX7_days_X7_refuses rfl rfl rfl (by decide +kernel) ⟨(Nat.le_of_ble_eq_true rfl), (Nat.le_of_ble_eq_true rfl)⟩) (k_pV hPc hDc hK hN hC hS hFc hP (q0 := 0) (ci := 7) rfl rfl) rfl rfl hl.1 rfl (lv_room (Nat.le_of_ble_eq_true rfl)) dX7_days_26 ⟨(Nat.le_of_ble_eq_true rfl), (Nat.le_of_ble_eq_true rfl)⟩) hP hD hS hA [0, 1] [] rfl rfl rfl rfl (by decide) (fun _ => rfl) 0 0 rfl rfl (fun r_3 u_4 H locs hw hP hD hS => ?_)
  obtain rfl : r_3 = (-1) := hw
  have hP : va_P (dC, dI) vwCl [(p0, .inr (7, oM p2 i7 j7)), ((p2 48), .inl (cI, 6, .inl (upd (fun _ => 0) 3 1)))] H := hP
  have hD : va_D A [(p0, .inr (7, oM p2 i7 j7)), ((p2 48), .inl (cI, 6, .inl (upd (fun _ => 0) 3 1)))] := hD
  exact k_ri B hP hD hS dX7_days_29 () [0, 1] rfl rfl rfl (Nat.le_of_ble_eq_true rfl) (Nat.le_of_ble_eq_true rfl) rfl
set_option maxHeartbeats 4000000 in
set_option maxRecDepth 100000 in
theorem c_X7_is_v3 (l : Launch) (dC : Nat → ClassId) (dI : Nat → Nat → Nat) (cI cJ cZ cM : ClassId) (p0 : Int32) (b_0 : 41 ≤ p0.toInt) (t_0 : p0.toInt ≤ 2147483647)  : k_Mi l yX7_is wsX7_is ({ frames := 1, cells := 0, slots := 0, locals := 40 }) (dC, dI) vwCl (tyy cI cJ cZ cM) [] [.int p0, .int 1, .int 40] 0 0 (fun (u9 : Unit) => []) (fun (r9 : Int32) (u9 : Unit) => r9 = 0) := by
  refine fun sz => k_enter (cc := cX7_is) (maxL := 3) (ret := some (.boolean)) (Qc := fun A => va_Qi (fun (r9 : Int32) (u9 : Unit) => r9 = 0) (fun u => k_B (dC, dI) vwCl (tyy cI cJ cZ cM) A ((fun (u9 : Unit) => []) u)) A) sz (by decide +kernel) rfl (Nat.le_of_ble_eq_true rfl) (fun p e s m args below meth c A ls H locs B hP hD hS hl => ?_)
  obtain ⟨hx, hb, hml, hown, hts, hr, hlk, hnm, hK, hA, hN, hC⟩ := id B
  have hown : s.vm.findClass RX7 = some m.cls := hown
  have hl : lv_has ls 3 [(0, .int p0), (1, .int 1), (2, .int 40)] := hl
  refine lv_iload_n hx hb dX7_is_0 rfl (lv_at hl 0 rfl) ?_
  refine lv_iload_n hx hb dX7_is_1 rfl (lv_at hl 1 rfl) ?_
  refine lv_icmp_lt (tgt := 14) hx hb dX7_is_2 (by decide) (fun c_1 => ?_) (fun c_1 => ?_)
  · have c_1 : p0.toInt < 1 := k_ltT rfl (by decide +kernel) c_1
    exfalso; omega
  · have c_1 : 1 ≤ p0.toInt := k_ltF rfl (by decide +kernel) c_1
    refine lv_iload_n hx hb dX7_is_5 rfl (lv_at hl 0 rfl) ?_
    refine lv_iload_n hx hb dX7_is_6 rfl (lv_at hl 2 rfl) ?_
    refine lv_icmp_gt (tgt := 14) hx hb dX7_is_7 (by decide) (fun c_2 => ?_) (fun c_2 => ?_)
    · have c_2 : 40 < p0.toInt := k_ltT (by decide +kernel) rfl c_2
      refine lv_iconst (v := 0) hx hb dX7_is_14 (by decide +kernel) ?_
      exact k_ri B hP hD hS dX7_is_15 () [] rfl rfl rfl (Nat.le_of_ble_eq_true rfl) (Nat.le_of_ble_eq_true rfl) rfl
    · have c_2 : p0.toInt ≤ 40 := k_ltF (by decide +kernel) rfl c_2
      exfalso; omega
set_option maxHeartbeats 4000000 in
set_option maxRecDepth 100000 in
theorem c_X7_days_v1 (l : Launch) (dC : Nat → ClassId) (dI : Nat → Nat → Nat) (cI cJ cZ cM : ClassId) (p0 : Nat) (p1 : Int32) (p2 : Nat → Nat) (b_0 : 41 ≤ p1.toInt) (t_0 : p1.toInt ≤ 2147483647)  : k_Mi l yX7_days wsX7_days ({ frames := 2, cells := 0, slots := 0, locals := 62 }) (dC, dI) vwCl (tyy cI cJ cZ cM) [(p0, .inr (7, oM p2 i7 j7)), ((p2 48), .inl (cI, 6, .inl (fun _ => 0)))] [.ref p0, .int p1] 0 0 (fun (u9 : Unit) => [(p0, .inr (7, oM p2 i7 j7)), ((p2 48), .inl (cI, 6, .inl (upd (fun _ => 0) 3 1)))]) (fun (r9 : Int32) (u9 : Unit) => r9 = (-1)) := by
  refine fun sz => k_enter (cc := cX7_days) (maxL := 6) (ret := some (.int)) (Qc := fun A => va_Qi (fun (r9 : Int32) (u9 : Unit) => r9 = (-1)) (fun u => k_B (dC, dI) vwCl (tyy cI cJ cZ cM) A ((fun (u9 : Unit) => [(p0, .inr (7, oM p2 i7 j7)), ((p2 48), .inl (cI, 6, .inl (upd (fun _ => 0) 3 1)))]) u)) A) sz (by decide +kernel) rfl (Nat.le_of_ble_eq_true rfl) (fun p e s m args below meth c A ls H locs B hP hD hS hl => ?_)
  obtain ⟨hx, hb, hml, hown, hts, hr, hlk, hnm, hK, hA, hN, hC⟩ := id B
  have hown : s.vm.findClass RX7 = some m.cls := hown
  have hl : lv_has ls 6 [(0, .ref p0), (1, .int p1)] := hl
  refine lv_iload_n hx hb dX7_days_0 rfl (lv_at hl 1 rfl) ?_
  refine lv_iconst (v := 1) hx hb dX7_days_1 (by decide +kernel) ?_
  refine lv_bipush (v := 40) hx hb dX7_days_2 (by decide +kernel) ?_
  refine k_ci (wc := []) (wr := [(p0, .inr (7, oM p2 i7 j7)), ((p2 48), .inl (cI, 6, .inl (fun _ => 0)))]) (fun hPc hDc hFc => va_runS (As := [.int p1, .int 1, .int 40]) (rest := []) ⟨hx, hb, hml, hown, hts⟩ (c_X7_is_v3 l dC dI cI cJ cZ cM p1 (by omega) (by omega) H.size) (va_cwS 3 hts gX7_days_X7_is rfl rfl rfl (by decide +kernel) ⟨(Nat.le_of_ble_eq_true rfl), (Nat.le_of_ble_eq_true rfl)⟩) (k_pS hPc hDc hK hN hC hS hFc) rfl rfl hl.1 rfl (lv_room (Nat.le_of_ble_eq_true rfl)) dX7_days_4 ⟨(Nat.le_of_ble_eq_true rfl), (Nat.le_of_ble_eq_true rfl)⟩) hP hD hS hA [] [0, 1] rfl rfl rfl rfl (by decide) (fun _ => rfl) 0 0 rfl rfl (fun r_1 u_2 H locs hw hP hD hS => ?_)
  obtain rfl : r_1 = 0 := hw
  have hP : va_P (dC, dI) vwCl [(p0, .inr (7, oM p2 i7 j7)), ((p2 48), .inl (cI, 6, .inl (fun _ => 0)))] H := hP
  have hD : va_D A [(p0, .inr (7, oM p2 i7 j7)), ((p2 48), .inl (cI, 6, .inl (fun _ => 0)))] := hD
  refine lv_if_eq (tgt := 24) hx hb dX7_days_7 (by decide) (fun _ => ?_) (fun q9 => absurd q9 (by decide +kernel))
  refine lv_aload_n hx hb dX7_days_24 rfl (lv_at hl 0 rfl) ?_
  refine lv_iconst (v := 3) hx hb dX7_days_25 (by decide +kernel) ?_
  refine k_ci (wc := [(p0, .inr (7, oM p2 i7 j7)), ((p2 48), .inl (cI, 6, .inl (fun _ => 0)))]) (wr := []) (fun hPc hDc hFc => va_runV (As := [.int 3]) (rest := []) ⟨hx, hb, hml, hown, hts⟩ (c_X7_refuses_v2 l dC dI cI cJ cZ cM p0 p2 H.size) (cwV 1 hts gX7_days_X7_refuses rfl rfl rfl (by decide +kernel) ⟨(Nat.le_of_ble_eq_true rfl), (Nat.le_of_ble_eq_true rfl)⟩) (k_pV hPc hDc hK hN hC hS hFc hP (q0 := 0) (ci := 7) rfl rfl) rfl rfl hl.1 rfl (lv_room (Nat.le_of_ble_eq_true rfl)) dX7_days_26 ⟨(Nat.le_of_ble_eq_true rfl), (Nat.le_of_ble_eq_true rfl)⟩) hP hD hS hA [0, 1] [] rfl rfl rfl rfl (by decide) (fun _ => rfl) 0 0 rfl rfl (fun r_3 u_4 H locs hw hP hD hS => ?_)
  obtain rfl : r_3 = (-1) := hw
  have hP : va_P (dC, dI) vwCl [(p0, .inr (7, oM p2 i7 j7)), ((p2 48), .inl (cI, 6, .inl (upd (fun _ => 0) 3 1)))] H := hP
  have hD : va_D A [(p0, .inr (7, oM p2 i7 j7)), ((p2 48), .inl (cI, 6, .inl (upd (fun _ => 0) 3 1)))] := hD
  exact k_ri B hP hD hS dX7_days_29 () [0, 1] rfl rfl rfl (Nat.le_of_ble_eq_true rfl) (Nat.le_of_ble_eq_true rfl) rfl
set_option maxHeartbeats 4000000 in
set_option maxRecDepth 100000 in
theorem c_X7_is_v4 (l : Launch) (dC : Nat → ClassId) (dI : Nat → Nat → Nat) (cI cJ cZ cM : ClassId) (p0 : Int32) (b_0 : 1 ≤ p0.toInt) (t_0 : p0.toInt ≤ 40)  : k_Mi l yX7_is wsX7_is ({ frames := 1, cells := 0, slots := 0, locals := 40 }) (dC, dI) vwCl (tyy cI cJ cZ cM) [] [.int p0, .int 1, .int 40] 0 0 (fun (u9 : Unit) => []) (fun (r9 : Int32) (u9 : Unit) => r9 = 1) := by
  refine fun sz => k_enter (cc := cX7_is) (maxL := 3) (ret := some (.boolean)) (Qc := fun A => va_Qi (fun (r9 : Int32) (u9 : Unit) => r9 = 1) (fun u => k_B (dC, dI) vwCl (tyy cI cJ cZ cM) A ((fun (u9 : Unit) => []) u)) A) sz (by decide +kernel) rfl (Nat.le_of_ble_eq_true rfl) (fun p e s m args below meth c A ls H locs B hP hD hS hl => ?_)
  obtain ⟨hx, hb, hml, hown, hts, hr, hlk, hnm, hK, hA, hN, hC⟩ := id B
  have hown : s.vm.findClass RX7 = some m.cls := hown
  have hl : lv_has ls 3 [(0, .int p0), (1, .int 1), (2, .int 40)] := hl
  refine lv_iload_n hx hb dX7_is_0 rfl (lv_at hl 0 rfl) ?_
  refine lv_iload_n hx hb dX7_is_1 rfl (lv_at hl 1 rfl) ?_
  refine lv_icmp_lt (tgt := 14) hx hb dX7_is_2 (by decide) (fun c_1 => ?_) (fun c_1 => ?_)
  · have c_1 : p0.toInt < 1 := k_ltT rfl (by decide +kernel) c_1
    exfalso; omega
  · have c_1 : 1 ≤ p0.toInt := k_ltF rfl (by decide +kernel) c_1
    refine lv_iload_n hx hb dX7_is_5 rfl (lv_at hl 0 rfl) ?_
    refine lv_iload_n hx hb dX7_is_6 rfl (lv_at hl 2 rfl) ?_
    refine lv_icmp_gt (tgt := 14) hx hb dX7_is_7 (by decide) (fun c_2 => ?_) (fun c_2 => ?_)
    · have c_2 : 40 < p0.toInt := k_ltT (by decide +kernel) rfl c_2
      exfalso; omega
    · have c_2 : p0.toInt ≤ 40 := k_ltF (by decide +kernel) rfl c_2
      refine lv_iconst (v := 1) hx hb dX7_is_10 (by decide +kernel) ?_
      refine lv_goto (tgt := 15) hx hb dX7_is_11 (by decide) ?_
      exact k_ri B hP hD hS dX7_is_15 () [] rfl rfl rfl (Nat.le_of_ble_eq_true rfl) (Nat.le_of_ble_eq_true rfl) rfl
set_option maxHeartbeats 4000000 in
set_option maxRecDepth 100000 in
theorem c_X7_draw_v0 (l : Launch) (dC : Nat → ClassId) (dI : Nat → Nat → Nat) (cI cJ cZ cM : ClassId) (p0 : Nat) (p1 : Nat → Nat) (p2 : Int64)   : k_Mi l yX7_draw wsX7_draw ({ frames := 1, cells := 0, slots := 0, locals := 40 }) (dC, dI) vwCl (tyy cI cJ cZ cM) [(p0, .inr (7, oM p1 (upd i7 59 1) (vp_updL j7 60 p2)))] [.ref p0, .int 4] 0 0 (fun (u9 : Unit) => [(p0, .inr (7, oM p1 (upd i7 59 1) (vp_updL j7 60 (((1103515245 * p2) + 12345) - ((1103515245 * p2) + 12345) / 2147483648 * 2147483648))))]) (fun (r9 : Int32) (u9 : Unit) => r9 = ((((((1103515245 * p2) + 12345) - ((1103515245 * p2) + 12345) / 2147483648 * 2147483648) / 64) - ((((1103515245 * p2) + 12345) - ((1103515245 * p2) + 12345) / 2147483648 * 2147483648) / 64) / 4 * 4).toInt32)) := by
  refine fun sz => k_enter (cc := cX7_draw) (maxL := 2) (ret := some (.int)) (Qc := fun A => va_Qi (fun (r9 : Int32) (u9 : Unit) => r9 = ((((((1103515245 * p2) + 12345) - ((1103515245 * p2) + 12345) / 2147483648 * 2147483648) / 64) - ((((1103515245 * p2) + 12345) - ((1103515245 * p2) + 12345) / 2147483648 * 2147483648) / 64) / 4 * 4).toInt32)) (fun u => k_B (dC, dI) vwCl (tyy cI cJ cZ cM) A ((fun (u9 : Unit) => [(p0, .inr (7, oM p1 (upd i7 59 1) (vp_updL j7 60 (((1103515245 * p2) + 12345) - ((1103515245 * p2) + 12345) / 2147483648 * 2147483648))))]) u)) A) sz (by decide +kernel) rfl (Nat.le_of_ble_eq_true rfl) (fun p e s m args below meth c A ls H locs B hP hD hS hl => ?_)
  obtain ⟨hx, hb, hml, hown, hts, hr, hlk, hnm, hK, hA, hN, hC⟩ := id B
  have hown : s.vm.findClass RX7 = some m.cls := hown
  have hl : lv_has ls 2 [(0, .ref p0), (1, .int 4)] := hl
  have w_0 : (Cond.constantLong RX7 578 (1103515245)).before args s = true := hts _ (List.mem_of_getElem? (i := 1) rfl)
  have w_1 : (Cond.fieldLink RX7 195 "WishSeaModel" "seeds" "J").before args s = true := hts _ (List.mem_of_getElem? (i := 2) rfl)
  have w_2 : (Cond.constantLong RX7 580 (12345)).before args s = true := hts _ (List.mem_of_getElem? (i := 3) rfl)
  have w_3 : (Cond.constantLong RX7 582 (2147483648)).before args s = true := hts _ (List.mem_of_getElem? (i := 4) rfl)
  have w_4 : (Cond.constantLong RX7 584 (64)).before args s = true := hts _ (List.mem_of_getElem? (i := 5) rfl)
  have hinX7 : ∀ w ∈ u_ws RX7 TX7 92, w ∈ wsX7_draw := fun _ h => List.mem_cons_of_mem _ (List.mem_append_right _ h)
  refine lv_aload_n hx hb dX7_draw_0 rfl (lv_at hl 0 rfl) ?_
  refine lv_ldc2 (v := 1103515245) hx hb hown w_0 dX7_draw_1 ?_
  refine lv_aload_n hx hb dX7_draw_4 rfl (lv_at hl 0 rfl) ?_
  refine k_get (D := (dC, dI)) (ci := 7) (v := .long p2) (C := RX7) (T := TX7) (N := 92) hx hb hts hinX7 hown hK hP 0 rfl rfl 60 (by decide) w_1 rfl rfl dX7_draw_5 ?_
  refine lv_lmul hx hb dX7_draw_8 ?_
  refine lv_ldc2 (v := 12345) hx hb hown w_2 dX7_draw_9 ?_
  refine lv_ladd hx hb dX7_draw_12 ?_
  refine lv_ldc2 (v := 2147483648) hx hb hown w_3 dX7_draw_13 ?_
  refine lv_lrem hx hb dX7_draw_16 (by decide +kernel) ?_
  refine lv_topl (fun y_1 ey_1 => ?_)
  refine k_put (D := (dC, dI)) (ci := 7) (v := .long y_1) (C := RX7) (T := TX7) (N := 92) (ws' := [(p0, .inr (7, oM p1 (upd i7 59 1) (vp_updL j7 60 y_1)))]) hx hb hts hinX7 tyX7 tyX7_ok nmX7 hown hK hP hD hS 0 rfl rfl 60 (by decide) w_1 rfl rfl rfl rfl (Nat.le_of_ble_eq_true rfl) rfl dX7_draw_17 (fun H locs hP hD hS => ?_)
  refine lv_aload_n hx hb dX7_draw_20 rfl (lv_at hl 0 rfl) ?_
  refine k_get (D := (dC, dI)) (ci := 7) (v := .long y_1) (C := RX7) (T := TX7) (N := 92) hx hb hts hinX7 hown hK hP 0 rfl rfl 60 (by decide) w_1 rfl rfl dX7_draw_21 ?_
  refine lv_ldc2 (v := 64) hx hb hown w_4 dX7_draw_24 ?_
  refine lv_ldiv hx hb dX7_draw_27 (by decide +kernel) ?_
  refine lv_iload_n hx hb dX7_draw_28 rfl (lv_at hl 1 rfl) ?_
  refine lv_i2l (v := 4) hx hb dX7_draw_29 (by decide +kernel) ?_
  refine lv_lrem hx hb dX7_draw_30 (by decide +kernel) ?_
  refine lv_l2i (v := ((y_1 / 64) - (y_1 / 64) / 4 * 4).toInt32) hx hb dX7_draw_31 rfl ?_
  subst ey_1
  exact k_ri B hP hD hS dX7_draw_32 () [0] rfl rfl rfl (Nat.le_of_ble_eq_true rfl) (Nat.le_of_ble_eq_true rfl) rfl
set_option maxHeartbeats 4000000 in
set_option maxRecDepth 100000 in
theorem c_X7_briefOnes_v1 (l : Launch) (dC : Nat → ClassId) (dI : Nat → Nat → Nat) (cI cJ cZ cM : ClassId) (p0 : Nat) (p1 : Nat → Nat) (p2 : Int64)   : k_Mi l yX7_briefOnes wsX7_briefOnes ({ frames := 1, cells := 0, slots := 0, locals := 40 }) (dC, dI) vwCl (tyy cI cJ cZ cM) [(p0, .inr (7, oM p1 (upd i7 59 1) (vp_updL j7 60 p2))), ((p1 14), .inl (cI, 2, .inl (fun _ => 0)))] [.ref p0] 0 0 (fun (u9 : Unit) => [(p0, .inr (7, oM p1 (upd i7 59 1) (vp_updL j7 60 p2))), ((p1 14), .inl (cI, 2, .inl (fun _ => 0)))]) (fun (r9 : Int32) (u9 : Unit) => r9 = 0) := by
  refine fun sz => k_enter (cc := cX7_briefOnes) (maxL := 3) (ret := some (.int)) (Qc := fun A => va_Qi (fun (r9 : Int32) (u9 : Unit) => r9 = 0) (fun u => k_B (dC, dI) vwCl (tyy cI cJ cZ cM) A ((fun (u9 : Unit) => [(p0, .inr (7, oM p1 (upd i7 59 1) (vp_updL j7 60 p2))), ((p1 14), .inl (cI, 2, .inl (fun _ => 0)))]) u)) A) sz (by decide +kernel) rfl (Nat.le_of_ble_eq_true rfl) (fun p e s m args below meth c A ls H locs B hP hD hS hl => ?_)
  obtain ⟨hx, hb, hml, hown, hts, hr, hlk, hnm, hK, hA, hN, hC⟩ := id B
  have hown : s.vm.findClass RX7 = some m.cls := hown
  have hl : lv_has ls 3 [(0, .ref p0)] := hl
  have w_0 : (Cond.fieldLink RX7 54 "WishSeaModel" "things" "[I").before args s = true := hts _ (List.mem_of_getElem? (i := 1) rfl)
  have w_1 : (Cond.fieldLink RX7 51 "WishSeaModel" "bank" "I").before args s = true := hts _ (List.mem_of_getElem? (i := 2) rfl)
  have hinX7 : ∀ w ∈ u_ws RX7 TX7 92, w ∈ wsX7_briefOnes := fun _ h => List.mem_cons_of_mem _ (List.mem_append_right _ h)
  refine lv_iconst (v := 0) hx hb dX7_briefOnes_0 (by decide +kernel) ?_
  refine lv_istore_n (lv' := [(1, .int 0), (0, .ref p0)]) hx hb dX7_briefOnes_1 rfl hl (by decide) rfl (fun ls hl => ?_)
  refine lv_iconst (v := 0) hx hb dX7_briefOnes_2 (by decide +kernel) ?_
  refine lv_istore_n (lv' := [(2, .int 0), (1, .int 0), (0, .ref p0)]) hx hb dX7_briefOnes_3 rfl hl (by decide) rfl (fun ls hl => ?_)
  refine lv_iload_n hx hb dX7_briefOnes_4 rfl (lv_at hl 0 rfl) ?_
  refine lv_aload_n hx hb dX7_briefOnes_5 rfl (lv_at hl 2 rfl) ?_
  refine k_get (D := (dC, dI)) (ci := 7) (v := .ref (p1 14)) (C := RX7) (T := TX7) (N := 92) hx hb hts hinX7 hown hK hP 0 rfl rfl 14 (by decide) w_0 rfl rfl dX7_briefOnes_6 ?_
  refine lv_aload_n hx hb dX7_briefOnes_9 rfl (lv_at hl 2 rfl) ?_
  refine k_get (D := (dC, dI)) (ci := 7) (v := .int 0) (C := RX7) (T := TX7) (N := 92) hx hb hts hinX7 hown hK hP 0 rfl rfl 13 (by decide) w_1 rfl rfl dX7_briefOnes_10 ?_
  refine k_iald (v := 0) hx hb hK hP 1 0 0 rfl rfl rfl (Nat.le_of_ble_eq_true rfl) (Nat.le_of_ble_eq_true rfl) rfl dX7_briefOnes_13 ?_
  refine lv_icmp_ge (tgt := 42) hx hb dX7_briefOnes_14 (by decide) (fun _ => ?_) (fun q9 => absurd q9 (by decide +kernel))
  refine lv_iload_n hx hb dX7_briefOnes_42 rfl (lv_at hl 1 rfl) ?_
  exact k_ri B hP hD hS dX7_briefOnes_43 () [0, 1] rfl rfl rfl (Nat.le_of_ble_eq_true rfl) (Nat.le_of_ble_eq_true rfl) rfl
set_option maxHeartbeats 4000000 in
set_option maxRecDepth 100000 in
theorem c_X7_dayEnds_v1 (l : Launch) (dC : Nat → ClassId) (dI : Nat → Nat → Nat) (cI cJ cZ cM : ClassId) (p0 : Nat) (p1 : Nat → Nat) (p2 : Int64) (p3 : Nat → Int32) (p4 : Nat → Int32) (p5 : Nat → Int32) (p6 : Nat → Int32) (p7 : Nat)  (e_0 : p3 0 = 0) (e_1 : p4 0 = 0) (e_2 : p5 0 = 0) (e_3 : p6 0 = (nI p7)) : k_Mv l yX7_dayEnds wsX7_dayEnds ({ frames := 2, cells := 0, slots := 0, locals := 62 }) (dC, dI) vwCl (tyy cI cJ cZ cM) [(p0, .inr (7, oM p1 (upd i7 59 1) (vp_updL j7 60 p2))), ((p1 49), .inl (cI, 22, .inl p3)), ((p1 14), .inl (cI, 2, .inl (fun _ => 0))), ((p1 50), .inl (cI, 22, .inl p4)), ((p1 31), .inl (cI, 2, .inl (fun _ => 0))), ((p1 51), .inl (cI, 22, .inl p5)), ((p1 52), .inl (cI, 22, .inl p6))] [.ref p0, .int 0] 0 0 (fun (u9 : Unit) => [(p0, .inr (7, oM p1 (upd i7 59 1) (vp_updL j7 60 p2))), ((p1 49), .inl (cI, 22, .inl (upd p3 0 0))), ((p1 14), .inl (cI, 2, .inl (fun _ => 0))), ((p1 50), .inl (cI, 22, .inl (upd p4 0 0))), ((p1 31), .inl (cI, 2, .inl (fun _ => 0))), ((p1 51), .inl (cI, 22, .inl (upd p5 0 0))), ((p1 52), .inl (cI, 22, .inl (upd p6 0 (nI (p7 + 1)))))]) (fun (u9 : Unit) => True) := by
  refine fun sz => k_enter (cc := cX7_dayEnds) (maxL := 2) (ret := none) (Qc := fun A => va_Qv (fun (u9 : Unit) => True) (fun u => k_B (dC, dI) vwCl (tyy cI cJ cZ cM) A ((fun (u9 : Unit) => [(p0, .inr (7, oM p1 (upd i7 59 1) (vp_updL j7 60 p2))), ((p1 49), .inl (cI, 22, .inl (upd p3 0 0))), ((p1 14), .inl (cI, 2, .inl (fun _ => 0))), ((p1 50), .inl (cI, 22, .inl (upd p4 0 0))), ((p1 31), .inl (cI, 2, .inl (fun _ => 0))), ((p1 51), .inl (cI, 22, .inl (upd p5 0 0))), ((p1 52), .inl (cI, 22, .inl (upd p6 0 (nI (p7 + 1)))))]) u)) A) sz (by decide +kernel) rfl (Nat.le_of_ble_eq_true rfl) (fun p e s m args below meth c A ls H locs B hP hD hS hl => ?_)
  obtain ⟨hx, hb, hml, hown, hts, hr, hlk, hnm, hK, hA, hN, hC⟩ := id B
  have hown : s.vm.findClass RX7 = some m.cls := hown
  have hl : lv_has ls 2 [(0, .ref p0), (1, .int 0)] := hl
  have w_0 : (Cond.fieldLink RX7 162 "WishSeaModel" "hadOf" "[I").before args s = true := hts _ (List.mem_of_getElem? (i := 1) rfl)
  have w_1 : (Cond.fieldLink RX7 165 "WishSeaModel" "seaOf" "[I").before args s = true := hts _ (List.mem_of_getElem? (i := 2) rfl)
  have w_2 : (Cond.fieldLink RX7 105 "WishSeaModel" "calming" "[I").before args s = true := hts _ (List.mem_of_getElem? (i := 3) rfl)
  have w_3 : (Cond.fieldLink RX7 51 "WishSeaModel" "bank" "I").before args s = true := hts _ (List.mem_of_getElem? (i := 4) rfl)
  have w_4 : (Cond.fieldLink RX7 168 "WishSeaModel" "saidOf" "[I").before args s = true := hts _ (List.mem_of_getElem? (i := 5) rfl)
  have w_5 : (Cond.fieldLink RX7 171 "WishSeaModel" "dayOf" "[I").before args s = true := hts _ (List.mem_of_getElem? (i := 6) rfl)
  have hinX7 : ∀ w ∈ u_ws RX7 TX7 92, w ∈ wsX7_dayEnds := fun _ h => List.mem_cons_of_mem _ (List.mem_append_right _ h)
  refine lv_aload_n hx hb dX7_dayEnds_0 rfl (lv_at hl 0 rfl) ?_
  refine k_get (D := (dC, dI)) (ci := 7) (v := .ref (p1 49)) (C := RX7) (T := TX7) (N := 92) hx hb hts hinX7 hown hK hP 0 rfl rfl 49 (by decide) w_0 rfl rfl dX7_dayEnds_1 ?_
  refine lv_iload_n hx hb dX7_dayEnds_4 rfl (lv_at hl 1 rfl) ?_
  refine lv_dup2_11 hx hb dX7_dayEnds_5 rfl rfl ?_
  refine k_iald (v := 0) hx hb hK hP 1 0 0 rfl rfl rfl (Nat.le_of_ble_eq_true rfl) (Nat.le_of_ble_eq_true rfl) e_0 dX7_dayEnds_6 ?_
  refine lv_aload_n hx hb dX7_dayEnds_7 rfl (lv_at hl 0 rfl) ?_
  refine k_ci (wc := [(p0, .inr (7, oM p1 (upd i7 59 1) (vp_updL j7 60 p2))), ((p1 14), .inl (cI, 2, .inl (fun _ => 0)))]) (wr := [((p1 49), .inl (cI, 22, .inl p3)), ((p1 50), .inl (cI, 22, .inl p4)), ((p1 31), .inl (cI, 2, .inl (fun _ => 0))), ((p1 51), .inl (cI, 22, .inl p5)), ((p1 52), .inl (cI, 22, .inl p6))]) (fun hPc hDc hFc => va_runV (As := []) (rest := [.int 0, .int 0, .ref (p1 49)]) ⟨hx, hb, hml, hown, hts⟩ (c_X7_briefOnes_v1 l dC dI cI cJ cZ cM p0 p1 p2 H.size) (cwV 0 hts gX7_dayEnds_X7_briefOnes rfl rfl rfl (by decide +kernel) ⟨(Nat.le_of_ble_eq_true rfl), (Nat.le_of_ble_eq_true rfl)⟩) (k_pV hPc hDc hK hN hC hS hFc hP (q0 := 0) (ci := 7) rfl rfl) rfl rfl hl.1 rfl (lv_room (Nat.le_of_ble_eq_true rfl)) dX7_dayEnds_8 ⟨(Nat.le_of_ble_eq_true rfl), (Nat.le_of_ble_eq_true rfl)⟩) hP hD hS hA [0, 2] [1, 3, 4, 5, 6] rfl rfl rfl rfl (by decide) (fun _ => rfl) 0 0 rfl rfl (fun r_1 u_2 H locs hw hP hD hS => ?_)
  obtain rfl : r_1 = 0 := hw
  have hP : va_P (dC, dI) vwCl [((p1 49), .inl (cI, 22, .inl p3)), ((p1 50), .inl (cI, 22, .inl p4)), ((p1 31), .inl (cI, 2, .inl (fun _ => 0))), ((p1 51), .inl (cI, 22, .inl p5)), ((p1 52), .inl (cI, 22, .inl p6)), (p0, .inr (7, oM p1 (upd i7 59 1) (vp_updL j7 60 p2))), ((p1 14), .inl (cI, 2, .inl (fun _ => 0)))] H := hP
  have hD : va_D A [((p1 49), .inl (cI, 22, .inl p3)), ((p1 50), .inl (cI, 22, .inl p4)), ((p1 31), .inl (cI, 2, .inl (fun _ => 0))), ((p1 51), .inl (cI, 22, .inl p5)), ((p1 52), .inl (cI, 22, .inl p6)), (p0, .inr (7, oM p1 (upd i7 59 1) (vp_updL j7 60 p2))), ((p1 14), .inl (cI, 2, .inl (fun _ => 0)))] := hD
  refine lv_iconst (v := (-1)) hx hb dX7_dayEnds_11 (by decide +kernel) ?_
  refine lv_ixor hx hb dX7_dayEnds_12 ?_
  refine k_int (v := (-1)) (by decide +kernel) ?_
  refine lv_iand hx hb dX7_dayEnds_13 ?_
  refine k_int (v := 0) (by decide +kernel) ?_
  refine k_iast (g := (upd p3 0 0)) (ws' := [((p1 49), .inl (cI, 22, .inl (upd p3 0 0))), ((p1 50), .inl (cI, 22, .inl p4)), ((p1 31), .inl (cI, 2, .inl (fun _ => 0))), ((p1 51), .inl (cI, 22, .inl p5)), ((p1 52), .inl (cI, 22, .inl p6)), (p0, .inr (7, oM p1 (upd i7 59 1) (vp_updL j7 60 p2))), ((p1 14), .inl (cI, 2, .inl (fun _ => 0)))]) hx hb hK hP hD hS 0 0 0 rfl rfl rfl (Nat.le_of_ble_eq_true rfl) (Nat.le_of_ble_eq_true rfl) rfl rfl dX7_dayEnds_14 (fun H locs hP hD hS => ?_)
  refine lv_aload_n hx hb dX7_dayEnds_15 rfl (lv_at hl 0 rfl) ?_
  refine k_get (D := (dC, dI)) (ci := 7) (v := .ref (p1 50)) (C := RX7) (T := TX7) (N := 92) hx hb hts hinX7 hown hK hP 5 rfl rfl 50 (by decide) w_1 rfl rfl dX7_dayEnds_16 ?_
  refine lv_iload_n hx hb dX7_dayEnds_19 rfl (lv_at hl 1 rfl) ?_
  refine lv_aload_n hx hb dX7_dayEnds_20 rfl (lv_at hl 0 rfl) ?_
  refine k_get (D := (dC, dI)) (ci := 7) (v := .ref (p1 50)) (C := RX7) (T := TX7) (N := 92) hx hb hts hinX7 hown hK hP 5 rfl rfl 50 (by decide) w_1 rfl rfl dX7_dayEnds_21 ?_
  refine lv_iload_n hx hb dX7_dayEnds_24 rfl (lv_at hl 1 rfl) ?_
  refine k_iald (v := 0) hx hb hK hP 1 0 0 rfl rfl rfl (Nat.le_of_ble_eq_true rfl) (Nat.le_of_ble_eq_true rfl) e_1 dX7_dayEnds_25 ?_
  refine lv_aload_n hx hb dX7_dayEnds_26 rfl (lv_at hl 0 rfl) ?_
  refine k_get (D := (dC, dI)) (ci := 7) (v := .ref (p1 31)) (C := RX7) (T := TX7) (N := 92) hx hb hts hinX7 hown hK hP 5 rfl rfl 31 (by decide) w_2 rfl rfl dX7_dayEnds_27 ?_
  refine lv_aload_n hx hb dX7_dayEnds_30 rfl (lv_at hl 0 rfl) ?_
  refine k_get (D := (dC, dI)) (ci := 7) (v := .int 0) (C := RX7) (T := TX7) (N := 92) hx hb hts hinX7 hown hK hP 5 rfl rfl 13 (by decide) w_3 rfl rfl dX7_dayEnds_31 ?_
  refine k_iald (v := 0) hx hb hK hP 2 0 0 rfl rfl rfl (Nat.le_of_ble_eq_true rfl) (Nat.le_of_ble_eq_true rfl) rfl dX7_dayEnds_34 ?_
  refine lv_icmp_ge (tgt := 42) hx hb dX7_dayEnds_35 (by decide) (fun _ => ?_) (fun q9 => absurd q9 (by decide +kernel))
  refine lv_aload_n hx hb dX7_dayEnds_42 rfl (lv_at hl 0 rfl) ?_
  refine k_get (D := (dC, dI)) (ci := 7) (v := .ref (p1 50)) (C := RX7) (T := TX7) (N := 92) hx hb hts hinX7 hown hK hP 5 rfl rfl 50 (by decide) w_1 rfl rfl dX7_dayEnds_43 ?_
  refine lv_iload_n hx hb dX7_dayEnds_46 rfl (lv_at hl 1 rfl) ?_
  refine k_iald (v := 0) hx hb hK hP 1 0 0 rfl rfl rfl (Nat.le_of_ble_eq_true rfl) (Nat.le_of_ble_eq_true rfl) e_1 dX7_dayEnds_47 ?_
  refine lv_aload_n hx hb dX7_dayEnds_48 rfl (lv_at hl 0 rfl) ?_
  refine k_get (D := (dC, dI)) (ci := 7) (v := .ref (p1 31)) (C := RX7) (T := TX7) (N := 92) hx hb hts hinX7 hown hK hP 5 rfl rfl 31 (by decide) w_2 rfl rfl dX7_dayEnds_49 ?_
  refine lv_aload_n hx hb dX7_dayEnds_52 rfl (lv_at hl 0 rfl) ?_
  refine k_get (D := (dC, dI)) (ci := 7) (v := .int 0) (C := RX7) (T := TX7) (N := 92) hx hb hts hinX7 hown hK hP 5 rfl rfl 13 (by decide) w_3 rfl rfl dX7_dayEnds_53 ?_
  refine k_iald (v := 0) hx hb hK hP 2 0 0 rfl rfl rfl (Nat.le_of_ble_eq_true rfl) (Nat.le_of_ble_eq_true rfl) rfl dX7_dayEnds_56 ?_
  refine lv_isub hx hb dX7_dayEnds_57 ?_
  refine k_int (v := 0) (by decide +kernel) ?_
  refine k_iast (g := (upd p4 0 0)) (ws' := [((p1 49), .inl (cI, 22, .inl (upd p3 0 0))), ((p1 50), .inl (cI, 22, .inl (upd p4 0 0))), ((p1 31), .inl (cI, 2, .inl (fun _ => 0))), ((p1 51), .inl (cI, 22, .inl p5)), ((p1 52), .inl (cI, 22, .inl p6)), (p0, .inr (7, oM p1 (upd i7 59 1) (vp_updL j7 60 p2))), ((p1 14), .inl (cI, 2, .inl (fun _ => 0)))]) hx hb hK hP hD hS 1 0 0 rfl rfl rfl (Nat.le_of_ble_eq_true rfl) (Nat.le_of_ble_eq_true rfl) rfl rfl dX7_dayEnds_58 (fun H locs hP hD hS => ?_)
  refine lv_aload_n hx hb dX7_dayEnds_59 rfl (lv_at hl 0 rfl) ?_
  refine k_get (D := (dC, dI)) (ci := 7) (v := .ref (p1 51)) (C := RX7) (T := TX7) (N := 92) hx hb hts hinX7 hown hK hP 5 rfl rfl 51 (by decide) w_4 rfl rfl dX7_dayEnds_60 ?_
  refine lv_iload_n hx hb dX7_dayEnds_63 rfl (lv_at hl 1 rfl) ?_
  refine lv_iconst (v := 0) hx hb dX7_dayEnds_64 (by decide +kernel) ?_
  refine k_iast (g := (upd p5 0 0)) (ws' := [((p1 49), .inl (cI, 22, .inl (upd p3 0 0))), ((p1 50), .inl (cI, 22, .inl (upd p4 0 0))), ((p1 31), .inl (cI, 2, .inl (fun _ => 0))), ((p1 51), .inl (cI, 22, .inl (upd p5 0 0))), ((p1 52), .inl (cI, 22, .inl p6)), (p0, .inr (7, oM p1 (upd i7 59 1) (vp_updL j7 60 p2))), ((p1 14), .inl (cI, 2, .inl (fun _ => 0)))]) hx hb hK hP hD hS 3 0 0 rfl rfl rfl (Nat.le_of_ble_eq_true rfl) (Nat.le_of_ble_eq_true rfl) rfl rfl dX7_dayEnds_65 (fun H locs hP hD hS => ?_)
  refine lv_aload_n hx hb dX7_dayEnds_66 rfl (lv_at hl 0 rfl) ?_
  refine k_get (D := (dC, dI)) (ci := 7) (v := .ref (p1 52)) (C := RX7) (T := TX7) (N := 92) hx hb hts hinX7 hown hK hP 5 rfl rfl 52 (by decide) w_5 rfl rfl dX7_dayEnds_67 ?_
  refine lv_iload_n hx hb dX7_dayEnds_70 rfl (lv_at hl 1 rfl) ?_
  refine lv_dup2_11 hx hb dX7_dayEnds_71 rfl rfl ?_
  refine k_iald (v := (nI p7)) hx hb hK hP 4 0 0 rfl rfl rfl (Nat.le_of_ble_eq_true rfl) (Nat.le_of_ble_eq_true rfl) e_3 dX7_dayEnds_72 ?_
  refine lv_iconst (v := 1) hx hb dX7_dayEnds_73 (by decide +kernel) ?_
  refine lv_iadd hx hb dX7_dayEnds_74 ?_
  refine k_int (v := (nI (p7 + 1))) (nI_1 _) ?_
  refine k_iast (g := (upd p6 0 (nI (p7 + 1)))) (ws' := [((p1 49), .inl (cI, 22, .inl (upd p3 0 0))), ((p1 50), .inl (cI, 22, .inl (upd p4 0 0))), ((p1 31), .inl (cI, 2, .inl (fun _ => 0))), ((p1 51), .inl (cI, 22, .inl (upd p5 0 0))), ((p1 52), .inl (cI, 22, .inl (upd p6 0 (nI (p7 + 1))))), (p0, .inr (7, oM p1 (upd i7 59 1) (vp_updL j7 60 p2))), ((p1 14), .inl (cI, 2, .inl (fun _ => 0)))]) hx hb hK hP hD hS 4 0 0 rfl rfl rfl (Nat.le_of_ble_eq_true rfl) (Nat.le_of_ble_eq_true rfl) rfl rfl dX7_dayEnds_75 (fun H locs hP hD hS => ?_)
  exact k_rv B hP hD hS dX7_dayEnds_76 () [5, 0, 6, 1, 2, 3, 4] rfl rfl (Nat.le_of_ble_eq_true rfl) (Nat.le_of_ble_eq_true rfl) trivial
set_option maxHeartbeats 4000000 in
set_option maxRecDepth 100000 in
theorem c_X7_saysSome_v0 (l : Launch) (dC : Nat → ClassId) (dI : Nat → Nat → Nat) (cI cJ cZ cM : ClassId) (p0 : Nat) (p1 : Nat → Nat) (p2 : Int64)   : k_Mi l yX7_saysSome wsX7_saysSome ({ frames := 1, cells := 0, slots := 0, locals := 40 }) (dC, dI) vwCl (tyy cI cJ cZ cM) [(p0, .inr (7, oM p1 (upd i7 59 1) (vp_updL j7 60 p2))), ((p1 18), .inl (cI, 2, .inl (fun _ => 0)))] [.ref p0] 0 0 (fun (u9 : Unit) => [(p0, .inr (7, oM p1 (upd i7 59 1) (vp_updL j7 60 p2))), ((p1 18), .inl (cI, 2, .inl (fun _ => 0)))]) (fun (r9 : Int32) (u9 : Unit) => r9 = 0) := by
  refine fun sz => k_enter (cc := cX7_saysSome) (maxL := 4) (ret := some (.boolean)) (Qc := fun A => va_Qi (fun (r9 : Int32) (u9 : Unit) => r9 = 0) (fun u => k_B (dC, dI) vwCl (tyy cI cJ cZ cM) A ((fun (u9 : Unit) => [(p0, .inr (7, oM p1 (upd i7 59 1) (vp_updL j7 60 p2))), ((p1 18), .inl (cI, 2, .inl (fun _ => 0)))]) u)) A) sz (by decide +kernel) rfl (Nat.le_of_ble_eq_true rfl) (fun p e s m args below meth c A ls H locs B hP hD hS hl => ?_)
  obtain ⟨hx, hb, hml, hown, hts, hr, hlk, hnm, hK, hA, hN, hC⟩ := id B
  have hown : s.vm.findClass RX7 = some m.cls := hown
  have hl : lv_has ls 4 [(0, .ref p0)] := hl
  have w_0 : (Cond.fieldLink RX7 66 "WishSeaModel" "wishes" "[I").before args s = true := hts _ (List.mem_of_getElem? (i := 1) rfl)
  have w_1 : (Cond.fieldLink RX7 51 "WishSeaModel" "bank" "I").before args s = true := hts _ (List.mem_of_getElem? (i := 2) rfl)
  have hinX7 : ∀ w ∈ u_ws RX7 TX7 92, w ∈ wsX7_saysSome := fun _ h => List.mem_cons_of_mem _ (List.mem_append_right _ h)
  refine lv_iconst (v := 0) hx hb dX7_saysSome_0 (by decide +kernel) ?_
  refine lv_istore_n (lv' := [(1, .int 0), (0, .ref p0)]) hx hb dX7_saysSome_1 rfl hl (by decide) rfl (fun ls hl => ?_)
  refine lv_iconst (v := 0) hx hb dX7_saysSome_2 (by decide +kernel) ?_
  refine lv_istore_n (lv' := [(2, .int 0), (1, .int 0), (0, .ref p0)]) hx hb dX7_saysSome_3 rfl hl (by decide) rfl (fun ls hl => ?_)
  refine lv_iload_n hx hb dX7_saysSome_4 rfl (lv_at hl 0 rfl) ?_
  refine lv_aload_n hx hb dX7_saysSome_5 rfl (lv_at hl 2 rfl) ?_
  refine k_get (D := (dC, dI)) (ci := 7) (v := .ref (p1 18)) (C := RX7) (T := TX7) (N := 92) hx hb hts hinX7 hown hK hP 0 rfl rfl 18 (by decide) w_0 rfl rfl dX7_saysSome_6 ?_
  refine lv_aload_n hx hb dX7_saysSome_9 rfl (lv_at hl 2 rfl) ?_
  refine k_get (D := (dC, dI)) (ci := 7) (v := .int 0) (C := RX7) (T := TX7) (N := 92) hx hb hts hinX7 hown hK hP 0 rfl rfl 13 (by decide) w_1 rfl rfl dX7_saysSome_10 ?_
  refine k_iald (v := 0) hx hb hK hP 1 0 0 rfl rfl rfl (Nat.le_of_ble_eq_true rfl) (Nat.le_of_ble_eq_true rfl) rfl dX7_saysSome_13 ?_
  refine lv_icmp_ge (tgt := 40) hx hb dX7_saysSome_14 (by decide) (fun _ => ?_) (fun q9 => absurd q9 (by decide +kernel))
  refine lv_iload_n hx hb dX7_saysSome_40 rfl (lv_at hl 1 rfl) ?_
  refine lv_if_ne (tgt := 46) hx hb dX7_saysSome_41 (by decide) (fun q9 => absurd q9 (by decide +kernel)) (fun _ => ?_)
  refine lv_iconst (v := 0) hx hb dX7_saysSome_44 (by decide +kernel) ?_
  exact k_ri B hP hD hS dX7_saysSome_45 () [0, 1] rfl rfl rfl (Nat.le_of_ble_eq_true rfl) (Nat.le_of_ble_eq_true rfl) rfl
set_option maxHeartbeats 4000000 in
set_option maxRecDepth 100000 in
theorem c_X7_days_v2 (l : Launch) (dC : Nat → ClassId) (dI : Nat → Nat → Nat) (cI cJ cZ cM : ClassId) (p0 : Nat) (p1 : Int32) (p2 : Nat → Nat) (b_0 : 1 ≤ p1.toInt) (t_0 : p1.toInt ≤ 40)  : k_Mi l yX7_days wsX7_days ({ frames := 3, cells := 0, slots := 0, locals := 83 }) (dC, dI) vwCl (tyy cI cJ cZ cM) [(p0, .inr (7, oM p2 i7 j7)), ((p2 52), .inl (cI, 22, .inl (fun _ => 0))), ((p2 49), .inl (cI, 22, .inl (fun _ => 0))), ((p2 50), .inl (cI, 22, .inl (fun _ => 0))), ((p2 51), .inl (cI, 22, .inl (fun _ => 0))), ((p2 53), .inl (cI, 22, .inl (fun _ => 0))), ((p2 14), .inl (cI, 2, .inl (fun _ => 0))), ((p2 31), .inl (cI, 2, .inl (fun _ => 0))), ((p2 18), .inl (cI, 2, .inl (fun _ => 0)))] [.ref p0, .int p1] 0 0 (fun (u9 : Unit) => [((p2 53), .inl (cI, 22, .inl (upd (fun _ => 0) 2 0))), ((p2 14), .inl (cI, 2, .inl (fun _ => 0))), ((p2 31), .inl (cI, 2, .inl (fun _ => 0))), ((p2 18), .inl (cI, 2, .inl (fun _ => 0)))]) (fun (r9 : Int32) (u9 : Unit) => r9 = 0) := by
  refine fun sz => k_enter (cc := cX7_days) (maxL := 6) (ret := some (.int)) (Qc := fun A => va_Qi (fun (r9 : Int32) (u9 : Unit) => r9 = 0) (fun u => k_B (dC, dI) vwCl (tyy cI cJ cZ cM) A ((fun (u9 : Unit) => [((p2 53), .inl (cI, 22, .inl (upd (fun _ => 0) 2 0))), ((p2 14), .inl (cI, 2, .inl (fun _ => 0))), ((p2 31), .inl (cI, 2, .inl (fun _ => 0))), ((p2 18), .inl (cI, 2, .inl (fun _ => 0)))]) u)) A) sz (by decide +kernel) rfl (Nat.le_of_ble_eq_true rfl) (fun p e s m args below meth c A ls H locs B hP hD hS hl => ?_)
  obtain ⟨hx, hb, hml, hown, hts, hr, hlk, hnm, hK, hA, hN, hC⟩ := id B
  have hown : s.vm.findClass RX7 = some m.cls := hown
  have hl : lv_has ls 6 [(0, .ref p0), (1, .int p1)] := hl
  have w_0 : (Cond.fieldLink RX7 171 "WishSeaModel" "dayOf" "[I").before args s = true := hts _ (List.mem_of_getElem? (i := 1) rfl)
  have hinX7 : ∀ w ∈ u_ws RX7 TX7 92, w ∈ wsX7_days := fun _ h => List.mem_cons_of_mem _ (List.mem_append_right _ h)
  refine lv_iload_n hx hb dX7_days_0 rfl (lv_at hl 1 rfl) ?_
  refine lv_iconst (v := 1) hx hb dX7_days_1 (by decide +kernel) ?_
  refine lv_bipush (v := 40) hx hb dX7_days_2 (by decide +kernel) ?_
  refine k_ci (wc := []) (wr := [(p0, .inr (7, oM p2 i7 j7)), ((p2 52), .inl (cI, 22, .inl (fun _ => 0))), ((p2 49), .inl (cI, 22, .inl (fun _ => 0))), ((p2 50), .inl (cI, 22, .inl (fun _ => 0))), ((p2 51), .inl (cI, 22, .inl (fun _ => 0))), ((p2 53), .inl (cI, 22, .inl (fun _ => 0))), ((p2 14), .inl (cI, 2, .inl (fun _ => 0))), ((p2 31), .inl (cI, 2, .inl (fun _ => 0))), ((p2 18), .inl (cI, 2, .inl (fun _ => 0)))]) (fun hPc hDc hFc => va_runS (As := [.int p1, .int 1, .int 40]) (rest := []) ⟨hx, hb, hml, hown, hts⟩ (c_X7_is_v4 l dC dI cI cJ cZ cM p1 (by omega) (by omega) H.size) (va_cwS 3 hts gX7_days_X7_is rfl rfl rfl (by decide +kernel) ⟨(Nat.le_of_ble_eq_true rfl), (Nat.le_of_ble_eq_true rfl)⟩) (k_pS hPc hDc hK hN hC hS hFc) rfl rfl hl.1 rfl (lv_room (Nat.le_of_ble_eq_true rfl)) dX7_days_4 ⟨(Nat.le_of_ble_eq_true rfl), (Nat.le_of_ble_eq_true rfl)⟩) hP hD hS hA [] [0, 1, 2, 3, 4, 5, 6, 7, 8] rfl rfl rfl rfl (by decide) (fun _ => rfl) 0 0 rfl rfl (fun r_1 u_2 H locs hw hP hD hS => ?_)
  obtain rfl : r_1 = 1 := hw
  have hP : va_P (dC, dI) vwCl [(p0, .inr (7, oM p2 i7 j7)), ((p2 52), .inl (cI, 22, .inl (fun _ => 0))), ((p2 49), .inl (cI, 22, .inl (fun _ => 0))), ((p2 50), .inl (cI, 22, .inl (fun _ => 0))), ((p2 51), .inl (cI, 22, .inl (fun _ => 0))), ((p2 53), .inl (cI, 22, .inl (fun _ => 0))), ((p2 14), .inl (cI, 2, .inl (fun _ => 0))), ((p2 31), .inl (cI, 2, .inl (fun _ => 0))), ((p2 18), .inl (cI, 2, .inl (fun _ => 0)))] H := hP
  have hD : va_D A [(p0, .inr (7, oM p2 i7 j7)), ((p2 52), .inl (cI, 22, .inl (fun _ => 0))), ((p2 49), .inl (cI, 22, .inl (fun _ => 0))), ((p2 50), .inl (cI, 22, .inl (fun _ => 0))), ((p2 51), .inl (cI, 22, .inl (fun _ => 0))), ((p2 53), .inl (cI, 22, .inl (fun _ => 0))), ((p2 14), .inl (cI, 2, .inl (fun _ => 0))), ((p2 31), .inl (cI, 2, .inl (fun _ => 0))), ((p2 18), .inl (cI, 2, .inl (fun _ => 0)))] := hD
  refine lv_if_eq (tgt := 24) hx hb dX7_days_7 (by decide) (fun q9 => absurd q9 (by decide +kernel)) (fun _ => ?_)
  refine lv_aload_n hx hb dX7_days_10 rfl (lv_at hl 0 rfl) ?_
  refine k_get (D := (dC, dI)) (ci := 7) (v := .ref (p2 52)) (C := RX7) (T := TX7) (N := 92) hx hb hts hinX7 hown hK hP 0 rfl rfl 52 (by decide) w_0 rfl rfl dX7_days_11 ?_
  refine lv_iconst (v := 0) hx hb dX7_days_14 (by decide +kernel) ?_
  refine k_iald (v := 0) hx hb hK hP 1 0 0 rfl rfl rfl (Nat.le_of_ble_eq_true rfl) (Nat.le_of_ble_eq_true rfl) rfl dX7_days_15 ?_
  refine lv_iload_n hx hb dX7_days_16 rfl (lv_at hl 1 rfl) ?_
  refine lv_iadd hx hb dX7_days_17 ?_
  refine k_int (v := p1) (Int32.zero_add _) ?_
  refine lv_sipush (v := 9999) hx hb dX7_days_18 (by decide +kernel) ?_
  refine lv_icmp_le (tgt := 30) hx hb dX7_days_21 (by decide) (fun c_3 => ?_) (fun c_3 => ?_)
  · have c_3 : p1.toInt ≤ 9999 := k_leT rfl (by decide +kernel) c_3
    refine lv_aload_n hx hb dX7_days_30 rfl (lv_at hl 0 rfl) ?_
    refine k_cv (wc := [(p0, .inr (7, oM p2 i7 j7)), ((p2 49), .inl (cI, 22, .inl (fun _ => 0))), ((p2 50), .inl (cI, 22, .inl (fun _ => 0))), ((p2 51), .inl (cI, 22, .inl (fun _ => 0))), ((p2 52), .inl (cI, 22, .inl (fun _ => 0))), ((p2 53), .inl (cI, 22, .inl (fun _ => 0)))]) (wr := [((p2 14), .inl (cI, 2, .inl (fun _ => 0))), ((p2 31), .inl (cI, 2, .inl (fun _ => 0))), ((p2 18), .inl (cI, 2, .inl (fun _ => 0)))]) (fun hPc hDc hFc => va_runV (As := []) (rest := []) ⟨hx, hb, hml, hown, hts⟩ (c_X7_keeps_v0 l dC dI cI cJ cZ cM p0 p2 H.size) (cwV 0 hts gX7_days_X7_keeps rfl rfl rfl (by decide +kernel) ⟨(Nat.le_of_ble_eq_true rfl), (Nat.le_of_ble_eq_true rfl)⟩) (k_pV hPc hDc hK hN hC hS hFc hP (q0 := 0) (ci := 7) rfl rfl) rfl rfl hl.1 rfl (lv_room (Nat.le_of_ble_eq_true rfl)) dX7_days_31 ⟨(Nat.le_of_ble_eq_true rfl), (Nat.le_of_ble_eq_true rfl)⟩) hP hD hS hA [0, 2, 3, 4, 1, 5] [6, 7, 8] rfl rfl rfl rfl (by decide) (fun _ => rfl) 0 0 rfl rfl (fun u_5 H locs hw hP hD hS => ?_)
    have hP : va_P (dC, dI) vwCl [((p2 14), .inl (cI, 2, .inl (fun _ => 0))), ((p2 31), .inl (cI, 2, .inl (fun _ => 0))), ((p2 18), .inl (cI, 2, .inl (fun _ => 0))), (p0, .inr (7, oM p2 (upd i7 59 1) j7)), ((p2 49), .inl (cI, 22, .inl (upd (fun _ => 0) 2 0))), ((p2 50), .inl (cI, 22, .inl (upd (fun _ => 0) 2 0))), ((p2 51), .inl (cI, 22, .inl (upd (fun _ => 0) 2 0))), ((p2 52), .inl (cI, 22, .inl (upd (fun _ => 0) 2 0))), ((p2 53), .inl (cI, 22, .inl (upd (fun _ => 0) 2 0)))] H := hP
    have hD : va_D A [((p2 14), .inl (cI, 2, .inl (fun _ => 0))), ((p2 31), .inl (cI, 2, .inl (fun _ => 0))), ((p2 18), .inl (cI, 2, .inl (fun _ => 0))), (p0, .inr (7, oM p2 (upd i7 59 1) j7)), ((p2 49), .inl (cI, 22, .inl (upd (fun _ => 0) 2 0))), ((p2 50), .inl (cI, 22, .inl (upd (fun _ => 0) 2 0))), ((p2 51), .inl (cI, 22, .inl (upd (fun _ => 0) 2 0))), ((p2 52), .inl (cI, 22, .inl (upd (fun _ => 0) 2 0))), ((p2 53), .inl (cI, 22, .inl (upd (fun _ => 0) 2 0)))] := hD
    refine lv_iconst (v := 0) hx hb dX7_days_34 (by decide +kernel) ?_
    refine lv_istore_n (lv' := [(2, .int 0), (0, .ref p0), (1, .int p1)]) hx hb dX7_days_35 rfl hl (by decide) rfl (fun ls hl => ?_)
    refine lv_iconst (v := 0) hx hb dX7_days_36 (by decide +kernel) ?_
    refine lv_istore_n (lv' := [(3, .int 0), (2, .int 0), (0, .ref p0), (1, .int p1)]) hx hb dX7_days_37 rfl hl (by decide) rfl (fun ls hl => ?_)
    have loop_k_6 : ∀ (n_k_6 : Nat) (kk_6 : Nat) (jk_6 : Int64) (f0k_6 : Nat → Int32) (f1k_6 : Nat → Int32) (f2k_6 : Nat → Int32) (f3k_6 : Nat → Int32) (h2k_6 : kk_6 ≤ 40) (g0k_6 : f0k_6 0 = 0) (g1k_6 : f1k_6 0 = 0) (g2k_6 : f2k_6 0 = 0) (g3k_6 : f3k_6 0 = (nI kk_6)) (hn_k_6 : 40 - kk_6 < n_k_6) (H : Heap) (locs : List Loc) (ls : Array Slot), va_P (dC, dI) vwCl [((p2 14), .inl (cI, 2, .inl (fun _ => 0))), ((p2 31), .inl (cI, 2, .inl (fun _ => 0))), ((p2 18), .inl (cI, 2, .inl (fun _ => 0))), (p0, .inr (7, oM p2 (upd i7 59 1) (vp_updL j7 60 jk_6))), ((p2 49), .inl (cI, 22, .inl f0k_6)), ((p2 50), .inl (cI, 22, .inl f1k_6)), ((p2 51), .inl (cI, 22, .inl f2k_6)), ((p2 52), .inl (cI, 22, .inl f3k_6)), ((p2 53), .inl (cI, 22, .inl (upd (fun _ => 0) 2 0)))] H → va_D A [((p2 14), .inl (cI, 2, .inl (fun _ => 0))), ((p2 31), .inl (cI, 2, .inl (fun _ => 0))), ((p2 18), .inl (cI, 2, .inl (fun _ => 0))), (p0, .inr (7, oM p2 (upd i7 59 1) (vp_updL j7 60 jk_6))), ((p2 49), .inl (cI, 22, .inl f0k_6)), ((p2 50), .inl (cI, 22, .inl f1k_6)), ((p2 51), .inl (cI, 22, .inl f2k_6)), ((p2 52), .inl (cI, 22, .inl f3k_6)), ((p2 53), .inl (cI, 22, .inl (upd (fun _ => 0) 2 0)))] → va_S A s.heap H locs → lv_has ls 6 [(3, .int (nI kk_6)), (2, .int 0), (0, .ref p0), (1, .int p1)] → W p l e ({ frames := 3, cells := 0, slots := 0, locals := 83 }) s m args below meth c H locs 0 0 (MQ below (va_Qi (fun (r9 : Int32) (u9 : Unit) => r9 = 0) (fun u => k_B (dC, dI) vwCl (tyy cI cJ cZ cM) A ((fun (u9 : Unit) => [((p2 53), .inl (cI, 22, .inl (upd (fun _ => 0) 2 0))), ((p2 14), .inl (cI, 2, .inl (fun _ => 0))), ((p2 31), .inl (cI, 2, .inl (fun _ => 0))), ((p2 18), .inl (cI, 2, .inl (fun _ => 0)))]) u)) A) args s 0 0 A) (F0 m 38 ls []) := by
      intro n_k_6
      induction n_k_6 with
      | zero => intro kk_6 jk_6 f0k_6 f1k_6 f2k_6 f3k_6 h2k_6 g0k_6 g1k_6 g2k_6 g3k_6 hn_k_6; exact absurd hn_k_6 (Nat.not_lt_zero _)
      | succ n_k_6 ih_k_6 =>
        intro kk_6 jk_6 f0k_6 f1k_6 f2k_6 f3k_6 h2k_6 g0k_6 g1k_6 g2k_6 g3k_6 hn_k_6 H locs ls hP hD hS hl
        refine lv_iload_n hx hb dX7_days_38 rfl (lv_at hl 0 rfl) ?_
        refine lv_iload_n hx hb dX7_days_39 rfl (lv_at hl 3 rfl) ?_
        refine lv_icmp_ge (tgt := 92) hx hb dX7_days_40 (by decide) (fun c_7 => ?_) (fun c_7 => ?_)
        · have c_7 : p1.toInt ≤ ((kk_6 : Nat) : Int) := k_leT rfl (nI_toInt (by omega)) c_7
          refine lv_iload_n hx hb dX7_days_92 rfl (lv_at hl 1 rfl) ?_
          exact k_ri B hP hD hS dX7_days_93 () [8, 0, 1, 2] rfl rfl rfl (Nat.le_of_ble_eq_true rfl) (Nat.le_of_ble_eq_true rfl) rfl
        · have c_7 : ((kk_6 : Nat) : Int) < p1.toInt := k_leF rfl (nI_toInt (by omega)) c_7
          refine lv_aload_n hx hb dX7_days_43 rfl (lv_at hl 2 rfl) ?_
          refine lv_iconst (v := 4) hx hb dX7_days_44 (by decide +kernel) ?_
          refine k_ci (wc := [(p0, .inr (7, oM p2 (upd i7 59 1) (vp_updL j7 60 jk_6)))]) (wr := [((p2 14), .inl (cI, 2, .inl (fun _ => 0))), ((p2 31), .inl (cI, 2, .inl (fun _ => 0))), ((p2 18), .inl (cI, 2, .inl (fun _ => 0))), ((p2 49), .inl (cI, 22, .inl f0k_6)), ((p2 50), .inl (cI, 22, .inl f1k_6)), ((p2 51), .inl (cI, 22, .inl f2k_6)), ((p2 52), .inl (cI, 22, .inl f3k_6)), ((p2 53), .inl (cI, 22, .inl (upd (fun _ => 0) 2 0)))]) (fun hPc hDc hFc => va_runV (As := [.int 4]) (rest := []) ⟨hx, hb, hml, hown, hts⟩ (c_X7_draw_v0 l dC dI cI cJ cZ cM p0 p2 jk_6 H.size) (cwV 1 hts gX7_days_X7_draw rfl rfl rfl (by decide +kernel) ⟨(Nat.le_of_ble_eq_true rfl), (Nat.le_of_ble_eq_true rfl)⟩) (k_pV hPc hDc hK hN hC hS hFc hP (q0 := 3) (ci := 7) rfl rfl) rfl rfl hl.1 rfl (lv_room (Nat.le_of_ble_eq_true rfl)) dX7_days_45 ⟨(Nat.le_of_ble_eq_true rfl), (Nat.le_of_ble_eq_true rfl)⟩) hP hD hS hA [3] [0, 1, 2, 4, 5, 6, 7, 8] rfl rfl rfl rfl (by decide) (fun _ => rfl) 0 0 rfl rfl (fun r_8 u_9 H locs hw hP hD hS => ?_)
          have er_8 : r_8 = ((((((1103515245 * jk_6) + 12345) - ((1103515245 * jk_6) + 12345) / 2147483648 * 2147483648) / 64) - ((((1103515245 * jk_6) + 12345) - ((1103515245 * jk_6) + 12345) / 2147483648 * 2147483648) / 64) / 4 * 4).toInt32) := hw
          have hP : va_P (dC, dI) vwCl [((p2 14), .inl (cI, 2, .inl (fun _ => 0))), ((p2 31), .inl (cI, 2, .inl (fun _ => 0))), ((p2 18), .inl (cI, 2, .inl (fun _ => 0))), ((p2 49), .inl (cI, 22, .inl f0k_6)), ((p2 50), .inl (cI, 22, .inl f1k_6)), ((p2 51), .inl (cI, 22, .inl f2k_6)), ((p2 52), .inl (cI, 22, .inl f3k_6)), ((p2 53), .inl (cI, 22, .inl (upd (fun _ => 0) 2 0))), (p0, .inr (7, oM p2 (upd i7 59 1) (vp_updL j7 60 (((1103515245 * jk_6) + 12345) - ((1103515245 * jk_6) + 12345) / 2147483648 * 2147483648))))] H := hP
          have hD : va_D A [((p2 14), .inl (cI, 2, .inl (fun _ => 0))), ((p2 31), .inl (cI, 2, .inl (fun _ => 0))), ((p2 18), .inl (cI, 2, .inl (fun _ => 0))), ((p2 49), .inl (cI, 22, .inl f0k_6)), ((p2 50), .inl (cI, 22, .inl f1k_6)), ((p2 51), .inl (cI, 22, .inl f2k_6)), ((p2 52), .inl (cI, 22, .inl f3k_6)), ((p2 53), .inl (cI, 22, .inl (upd (fun _ => 0) 2 0))), (p0, .inr (7, oM p2 (upd i7 59 1) (vp_updL j7 60 (((1103515245 * jk_6) + 12345) - ((1103515245 * jk_6) + 12345) / 2147483648 * 2147483648))))] := hD
          generalize ey_10 : (((1103515245 * jk_6) + 12345) - ((1103515245 * jk_6) + 12345) / 2147483648 * 2147483648) = y_10 at hP hD
          refine lv_istore (lv' := [(4, .int r_8), (3, .int (nI kk_6)), (2, .int 0), (0, .ref p0), (1, .int p1)]) hx hb dX7_days_48 hl (by decide) rfl (fun ls hl => ?_)
          refine lv_iconst (v := 0) hx hb dX7_days_50 (by decide +kernel) ?_
          refine lv_istore (lv' := [(5, .int 0), (4, .int r_8), (3, .int (nI kk_6)), (2, .int 0), (0, .ref p0), (1, .int p1)]) hx hb dX7_days_51 hl (by decide) rfl (fun ls hl => ?_)
          have loop_k_11 : ∀ (n_k_11 : Nat) (ik_11 : Int32) (ok_11 : Int32)  (hn_k_11 : (ok_11.toInt - ik_11.toInt).toNat < n_k_11) (H : Heap) (locs : List Loc) (ls : Array Slot), va_P (dC, dI) vwCl [((p2 14), .inl (cI, 2, .inl (fun _ => 0))), ((p2 31), .inl (cI, 2, .inl (fun _ => 0))), ((p2 18), .inl (cI, 2, .inl (fun _ => 0))), ((p2 49), .inl (cI, 22, .inl f0k_6)), ((p2 50), .inl (cI, 22, .inl f1k_6)), ((p2 51), .inl (cI, 22, .inl f2k_6)), ((p2 52), .inl (cI, 22, .inl f3k_6)), ((p2 53), .inl (cI, 22, .inl (upd (fun _ => 0) 2 0))), (p0, .inr (7, oM p2 (upd i7 59 1) (vp_updL j7 60 y_10)))] H → va_D A [((p2 14), .inl (cI, 2, .inl (fun _ => 0))), ((p2 31), .inl (cI, 2, .inl (fun _ => 0))), ((p2 18), .inl (cI, 2, .inl (fun _ => 0))), ((p2 49), .inl (cI, 22, .inl f0k_6)), ((p2 50), .inl (cI, 22, .inl f1k_6)), ((p2 51), .inl (cI, 22, .inl f2k_6)), ((p2 52), .inl (cI, 22, .inl f3k_6)), ((p2 53), .inl (cI, 22, .inl (upd (fun _ => 0) 2 0))), (p0, .inr (7, oM p2 (upd i7 59 1) (vp_updL j7 60 y_10)))] → va_S A s.heap H locs → lv_has ls 6 [(5, .int ik_11), (4, .int ok_11), (3, .int (nI kk_6)), (2, .int 0), (0, .ref p0), (1, .int p1)] → W p l e ({ frames := 3, cells := 0, slots := 0, locals := 83 }) s m args below meth c H locs 0 0 (MQ below (va_Qi (fun (r9 : Int32) (u9 : Unit) => r9 = 0) (fun u => k_B (dC, dI) vwCl (tyy cI cJ cZ cM) A ((fun (u9 : Unit) => [((p2 53), .inl (cI, 22, .inl (upd (fun _ => 0) 2 0))), ((p2 14), .inl (cI, 2, .inl (fun _ => 0))), ((p2 31), .inl (cI, 2, .inl (fun _ => 0))), ((p2 18), .inl (cI, 2, .inl (fun _ => 0)))]) u)) A) args s 0 0 A) (F0 m 53 ls []) := by
            intro n_k_11
            induction n_k_11 with
            | zero => intro ik_11 ok_11  hn_k_11; exact absurd hn_k_11 (Nat.not_lt_zero _)
            | succ n_k_11 ih_k_11 =>
              intro ik_11 ok_11  hn_k_11 H locs ls hP hD hS hl
              refine lv_iload hx hb dX7_days_53 (lv_at hl 0 rfl) ?_
              refine lv_iload hx hb dX7_days_55 (lv_at hl 1 rfl) ?_
              refine lv_icmp_ge (tgt := 81) hx hb dX7_days_57 (by decide) (fun c_12 => ?_) (fun c_12 => ?_)
              · have c_12 : ok_11.toInt ≤ ik_11.toInt := k_leT rfl rfl c_12
                refine lv_aload_n hx hb dX7_days_81 rfl (lv_at hl 4 rfl) ?_
                refine lv_iconst (v := 0) hx hb dX7_days_82 (by decide +kernel) ?_
                refine k_cv (wc := [(p0, .inr (7, oM p2 (upd i7 59 1) (vp_updL j7 60 y_10))), ((p2 49), .inl (cI, 22, .inl f0k_6)), ((p2 14), .inl (cI, 2, .inl (fun _ => 0))), ((p2 50), .inl (cI, 22, .inl f1k_6)), ((p2 31), .inl (cI, 2, .inl (fun _ => 0))), ((p2 51), .inl (cI, 22, .inl f2k_6)), ((p2 52), .inl (cI, 22, .inl f3k_6))]) (wr := [((p2 18), .inl (cI, 2, .inl (fun _ => 0))), ((p2 53), .inl (cI, 22, .inl (upd (fun _ => 0) 2 0)))]) (fun hPc hDc hFc => va_runV (As := [.int 0]) (rest := []) ⟨hx, hb, hml, hown, hts⟩ (c_X7_dayEnds_v1 l dC dI cI cJ cZ cM p0 p2 y_10 f0k_6 f1k_6 f2k_6 f3k_6 kk_6 g0k_6 g1k_6 g2k_6 g3k_6 H.size) (cwV 1 hts gX7_days_X7_dayEnds rfl rfl rfl (by decide +kernel) ⟨(Nat.le_of_ble_eq_true rfl), (Nat.le_of_ble_eq_true rfl)⟩) (k_pV hPc hDc hK hN hC hS hFc hP (q0 := 8) (ci := 7) rfl rfl) rfl rfl hl.1 rfl (lv_room (Nat.le_of_ble_eq_true rfl)) dX7_days_83 ⟨(Nat.le_of_ble_eq_true rfl), (Nat.le_of_ble_eq_true rfl)⟩) hP hD hS hA [8, 3, 0, 4, 1, 5, 6] [2, 7] rfl rfl rfl rfl (by decide) (fun _ => rfl) 0 0 rfl rfl (fun u_14 H locs hw hP hD hS => ?_)
                have hP : va_P (dC, dI) vwCl [((p2 18), .inl (cI, 2, .inl (fun _ => 0))), ((p2 53), .inl (cI, 22, .inl (upd (fun _ => 0) 2 0))), (p0, .inr (7, oM p2 (upd i7 59 1) (vp_updL j7 60 y_10))), ((p2 49), .inl (cI, 22, .inl (upd f0k_6 0 0))), ((p2 14), .inl (cI, 2, .inl (fun _ => 0))), ((p2 50), .inl (cI, 22, .inl (upd f1k_6 0 0))), ((p2 31), .inl (cI, 2, .inl (fun _ => 0))), ((p2 51), .inl (cI, 22, .inl (upd f2k_6 0 0))), ((p2 52), .inl (cI, 22, .inl (upd f3k_6 0 (nI (kk_6 + 1)))))] H := hP
                have hD : va_D A [((p2 18), .inl (cI, 2, .inl (fun _ => 0))), ((p2 53), .inl (cI, 22, .inl (upd (fun _ => 0) 2 0))), (p0, .inr (7, oM p2 (upd i7 59 1) (vp_updL j7 60 y_10))), ((p2 49), .inl (cI, 22, .inl (upd f0k_6 0 0))), ((p2 14), .inl (cI, 2, .inl (fun _ => 0))), ((p2 50), .inl (cI, 22, .inl (upd f1k_6 0 0))), ((p2 31), .inl (cI, 2, .inl (fun _ => 0))), ((p2 51), .inl (cI, 22, .inl (upd f2k_6 0 0))), ((p2 52), .inl (cI, 22, .inl (upd f3k_6 0 (nI (kk_6 + 1)))))] := hD
                refine lv_iinc (v := (nI (kk_6 + 1))) (lv' := [(3, .int (nI (kk_6 + 1))), (5, .int ik_11), (4, .int ok_11), (2, .int 0), (0, .ref p0), (1, .int p1)]) hx hb dX7_days_86 hl (k := 2) rfl (nI_1 _) (by decide) rfl (fun ls hl => ?_)
                refine lv_goto (tgt := 38) hx hb dX7_days_89 (by decide) ?_
                exact ih_k_6 (kk_6 + 1) y_10 (upd f0k_6 0 0) (upd f1k_6 0 0) (upd f2k_6 0 0) (upd f3k_6 0 (nI (kk_6 + 1))) (by omega) rfl rfl rfl rfl (by omega) H locs ls (hP.sub [4, 6, 0, 2, 3, 5, 7, 8, 1] rfl) (hD.sub [4, 6, 0, 2, 3, 5, 7, 8, 1] (by decide) rfl) hS (lv_sub hl [0, 3, 4, 5] rfl)
              · have c_12 : ik_11.toInt < ok_11.toInt := k_leF rfl rfl c_12
                refine lv_iload_n hx hb dX7_days_60 rfl (lv_at hl 3 rfl) ?_
                refine lv_aload_n hx hb dX7_days_61 rfl (lv_at hl 4 rfl) ?_
                refine k_ci (wc := [(p0, .inr (7, oM p2 (upd i7 59 1) (vp_updL j7 60 y_10))), ((p2 18), .inl (cI, 2, .inl (fun _ => 0)))]) (wr := [((p2 14), .inl (cI, 2, .inl (fun _ => 0))), ((p2 31), .inl (cI, 2, .inl (fun _ => 0))), ((p2 49), .inl (cI, 22, .inl f0k_6)), ((p2 50), .inl (cI, 22, .inl f1k_6)), ((p2 51), .inl (cI, 22, .inl f2k_6)), ((p2 52), .inl (cI, 22, .inl f3k_6)), ((p2 53), .inl (cI, 22, .inl (upd (fun _ => 0) 2 0)))]) (fun hPc hDc hFc => va_runV (As := []) (rest := [.int 0]) ⟨hx, hb, hml, hown, hts⟩ (c_X7_saysSome_v0 l dC dI cI cJ cZ cM p0 p2 y_10 H.size) (cwV 0 hts gX7_days_X7_saysSome rfl rfl rfl (by decide +kernel) ⟨(Nat.le_of_ble_eq_true rfl), (Nat.le_of_ble_eq_true rfl)⟩) (k_pV hPc hDc hK hN hC hS hFc hP (q0 := 8) (ci := 7) rfl rfl) rfl rfl hl.1 rfl (lv_room (Nat.le_of_ble_eq_true rfl)) dX7_days_62 ⟨(Nat.le_of_ble_eq_true rfl), (Nat.le_of_ble_eq_true rfl)⟩) hP hD hS hA [8, 2] [0, 1, 3, 4, 5, 6, 7] rfl rfl rfl rfl (by decide) (fun _ => rfl) 0 0 rfl rfl (fun r_15 u_16 H locs hw hP hD hS => ?_)
                obtain rfl : r_15 = 0 := hw
                have hP : va_P (dC, dI) vwCl [((p2 14), .inl (cI, 2, .inl (fun _ => 0))), ((p2 31), .inl (cI, 2, .inl (fun _ => 0))), ((p2 49), .inl (cI, 22, .inl f0k_6)), ((p2 50), .inl (cI, 22, .inl f1k_6)), ((p2 51), .inl (cI, 22, .inl f2k_6)), ((p2 52), .inl (cI, 22, .inl f3k_6)), ((p2 53), .inl (cI, 22, .inl (upd (fun _ => 0) 2 0))), (p0, .inr (7, oM p2 (upd i7 59 1) (vp_updL j7 60 y_10))), ((p2 18), .inl (cI, 2, .inl (fun _ => 0)))] H := hP
                have hD : va_D A [((p2 14), .inl (cI, 2, .inl (fun _ => 0))), ((p2 31), .inl (cI, 2, .inl (fun _ => 0))), ((p2 49), .inl (cI, 22, .inl f0k_6)), ((p2 50), .inl (cI, 22, .inl f1k_6)), ((p2 51), .inl (cI, 22, .inl f2k_6)), ((p2 52), .inl (cI, 22, .inl f3k_6)), ((p2 53), .inl (cI, 22, .inl (upd (fun _ => 0) 2 0))), (p0, .inr (7, oM p2 (upd i7 59 1) (vp_updL j7 60 y_10))), ((p2 18), .inl (cI, 2, .inl (fun _ => 0)))] := hD
                refine lv_if_eq (tgt := 72) hx hb dX7_days_65 (by decide) (fun _ => ?_) (fun q9 => absurd q9 (by decide +kernel))
                refine lv_iconst (v := 0) hx hb dX7_days_72 (by decide +kernel) ?_
                refine lv_iadd hx hb dX7_days_73 ?_
                refine k_int (v := 0) (by decide +kernel) ?_
                refine lv_istore_n (lv' := [(2, .int 0), (5, .int ik_11), (4, .int ok_11), (3, .int (nI kk_6)), (0, .ref p0), (1, .int p1)]) hx hb dX7_days_74 rfl hl (by decide) rfl (fun ls hl => ?_)
                refine lv_iinc (v := (ik_11 + 1)) (lv' := [(5, .int (ik_11 + 1)), (2, .int 0), (4, .int ok_11), (3, .int (nI kk_6)), (0, .ref p0), (1, .int p1)]) hx hb dX7_days_75 hl (k := 1) rfl rfl (by decide) rfl (fun ls hl => ?_)
                refine lv_goto (tgt := 53) hx hb dX7_days_78 (by decide) ?_
                have inc_k_11 := k_inc (x := ik_11) (y := ok_11) (by omega)
                exact ih_k_11 (ik_11 + 1) ok_11  (by omega) H locs ls (hP.sub [0, 1, 8, 2, 3, 4, 5, 6, 7] rfl) (hD.sub [0, 1, 8, 2, 3, 4, 5, 6, 7] (by decide) rfl) hS (lv_sub hl [0, 2, 3, 1, 4, 5] rfl)
          exact loop_k_11 _ 0 r_8  (Nat.lt_succ_self _) H locs ls hP hD hS hl
    exact loop_k_6 _ 0 1 (upd (fun _ => 0) 2 0) (upd (fun _ => 0) 2 0) (upd (fun _ => 0) 2 0) (upd (fun _ => 0) 2 0) (by omega) rfl rfl rfl rfl (Nat.lt_succ_self _) H locs ls hP hD hS hl
  · have c_3 : 9999 < p1.toInt := k_leF rfl (by decide +kernel) c_3
    exfalso; omega
set_option maxHeartbeats 4000000 in
set_option maxRecDepth 100000 in
theorem c_X6_refuse_v3 (l : Launch) (dC : Nat → ClassId) (dI : Nat → Nat → Nat) (cI cJ cZ cM : ClassId) (p0 : Nat) (p1 : Nat → Nat)   : k_Mi l yX6_refuse wsX6_refuse ({ frames := 1, cells := 0, slots := 0, locals := 40 }) (dC, dI) vwCl (tyy cI cJ cZ cM) [(p0, .inr (6, [.ref (p1 0), .int 0, .ref (p1 1), .ref (p1 14), .ref (p1 27), .ref (p1 28), .ref (p1 29), .ref (p1 30), .ref (p1 54), .null, .int 1, .int 1, .int 999, .ref (p1 61), .ref (p1 62), .ref (p1 63), .ref (p1 60)])), ((p1 60), .inl (cI, 6, .inl (fun _ => 0)))] [.ref p0, .int 4] 0 0 (fun (u9 : Unit) => [(p0, .inr (6, [.ref (p1 0), .int 0, .ref (p1 1), .ref (p1 14), .ref (p1 27), .ref (p1 28), .ref (p1 29), .ref (p1 30), .ref (p1 54), .null, .int 1, .int 1, .int 999, .ref (p1 61), .ref (p1 62), .ref (p1 63), .ref (p1 60)])), ((p1 60), .inl (cI, 6, .inl (upd (fun _ => 0) 4 1)))]) (fun (r9 : Int32) (u9 : Unit) => r9 = (-1)) := by
  refine fun sz => k_enter (cc := cX6_refuse) (maxL := 2) (ret := some (.int)) (Qc := fun A => va_Qi (fun (r9 : Int32) (u9 : Unit) => r9 = (-1)) (fun u => k_B (dC, dI) vwCl (tyy cI cJ cZ cM) A ((fun (u9 : Unit) => [(p0, .inr (6, [.ref (p1 0), .int 0, .ref (p1 1), .ref (p1 14), .ref (p1 27), .ref (p1 28), .ref (p1 29), .ref (p1 30), .ref (p1 54), .null, .int 1, .int 1, .int 999, .ref (p1 61), .ref (p1 62), .ref (p1 63), .ref (p1 60)])), ((p1 60), .inl (cI, 6, .inl (upd (fun _ => 0) 4 1)))]) u)) A) sz (by decide +kernel) rfl (Nat.le_of_ble_eq_true rfl) (fun p e s m args below meth c A ls H locs B hP hD hS hl => ?_)
  obtain ⟨hx, hb, hml, hown, hts, hr, hlk, hnm, hK, hA, hN, hC⟩ := id B
  have hown : s.vm.findClass RX6 = some m.cls := hown
  have hl : lv_has ls 2 [(0, .ref p0), (1, .int 4)] := hl
  have w_0 : (Cond.fieldLink RX6 78 "WishSea" "refused" "[I").before args s = true := hts _ (List.mem_of_getElem? (i := 1) rfl)
  have hinX6 : ∀ w ∈ u_ws RX6 TX6 17, w ∈ wsX6_refuse := fun _ h => List.mem_cons_of_mem _ (List.mem_append_right _ h)
  refine lv_iload_n hx hb dX6_refuse_0 rfl (lv_at hl 1 rfl) ?_
  refine lv_if_lt (tgt := 23) hx hb dX6_refuse_1 (by decide) (fun q9 => absurd q9 (by decide +kernel)) (fun _ => ?_)
  refine lv_iload_n hx hb dX6_refuse_4 rfl (lv_at hl 1 rfl) ?_
  refine lv_aload_n hx hb dX6_refuse_5 rfl (lv_at hl 0 rfl) ?_
  refine k_get (D := (dC, dI)) (ci := 6) (v := .ref (p1 60)) (C := RX6) (T := TX6) (N := 17) hx hb hts hinX6 hown hK hP 0 rfl rfl 16 (by decide) w_0 rfl rfl dX6_refuse_6 ?_
  refine va_alen (v := 6) hx hb hK hP 1 0 rfl rfl rfl dX6_refuse_9 ?_
  refine lv_icmp_ge (tgt := 23) hx hb dX6_refuse_10 (by decide) (fun q9 => absurd q9 (by decide +kernel)) (fun _ => ?_)
  refine lv_aload_n hx hb dX6_refuse_13 rfl (lv_at hl 0 rfl) ?_
  refine k_get (D := (dC, dI)) (ci := 6) (v := .ref (p1 60)) (C := RX6) (T := TX6) (N := 17) hx hb hts hinX6 hown hK hP 0 rfl rfl 16 (by decide) w_0 rfl rfl dX6_refuse_14 ?_
  refine lv_iload_n hx hb dX6_refuse_17 rfl (lv_at hl 1 rfl) ?_
  refine lv_dup2_11 hx hb dX6_refuse_18 rfl rfl ?_
  refine k_iald (v := 0) hx hb hK hP 1 0 4 rfl rfl rfl (Nat.le_of_ble_eq_true rfl) (Nat.le_of_ble_eq_true rfl) rfl dX6_refuse_19 ?_
  refine lv_iconst (v := 1) hx hb dX6_refuse_20 (by decide +kernel) ?_
  refine lv_iadd hx hb dX6_refuse_21 ?_
  refine k_int (v := 1) (by decide +kernel) ?_
  refine k_iast (g := (upd (fun _ => 0) 4 1)) (ws' := [(p0, .inr (6, [.ref (p1 0), .int 0, .ref (p1 1), .ref (p1 14), .ref (p1 27), .ref (p1 28), .ref (p1 29), .ref (p1 30), .ref (p1 54), .null, .int 1, .int 1, .int 999, .ref (p1 61), .ref (p1 62), .ref (p1 63), .ref (p1 60)])), ((p1 60), .inl (cI, 6, .inl (upd (fun _ => 0) 4 1)))]) hx hb hK hP hD hS 1 0 4 rfl rfl rfl (Nat.le_of_ble_eq_true rfl) (Nat.le_of_ble_eq_true rfl) rfl rfl dX6_refuse_22 (fun H locs hP hD hS => ?_)
  refine lv_iconst (v := (-1)) hx hb dX6_refuse_23 (by decide +kernel) ?_
  exact k_ri B hP hD hS dX6_refuse_24 () [0, 1] rfl rfl rfl (Nat.le_of_ble_eq_true rfl) (Nat.le_of_ble_eq_true rfl) rfl
set_option maxHeartbeats 4000000 in
set_option maxRecDepth 100000 in
theorem c_X6_undo_v0 (l : Launch) (dC : Nat → ClassId) (dI : Nat → Nat → Nat) (cI cJ cZ cM : ClassId) (p0 : Nat) (p1 : Nat → Nat)   : k_Mi l yX6_undo wsX6_undo ({ frames := 2, cells := 0, slots := 0, locals := 61 }) (dC, dI) vwCl (tyy cI cJ cZ cM) [(p0, .inr (6, [.ref (p1 0), .int 0, .ref (p1 1), .ref (p1 14), .ref (p1 27), .ref (p1 28), .ref (p1 29), .ref (p1 30), .ref (p1 54), .null, .int 1, .int 1, .int 999, .ref (p1 61), .ref (p1 62), .ref (p1 63), .ref (p1 60)])), ((p1 30), .inr (1, [.ref (p1 31), .int 0, .ref (p1 32), .ref (p1 33), .int 0, .int 0])), ((p1 60), .inl (cI, 6, .inl (fun _ => 0)))] [.ref p0] 0 0 (fun (u9 : Unit) => [(p0, .inr (6, [.ref (p1 0), .int 0, .ref (p1 1), .ref (p1 14), .ref (p1 27), .ref (p1 28), .ref (p1 29), .ref (p1 30), .ref (p1 54), .null, .int 1, .int 1, .int 999, .ref (p1 61), .ref (p1 62), .ref (p1 63), .ref (p1 60)])), ((p1 30), .inr (1, [.ref (p1 31), .int 0, .ref (p1 32), .ref (p1 33), .int 0, .int 0])), ((p1 60), .inl (cI, 6, .inl (upd (fun _ => 0) 4 1)))]) (fun (r9 : Int32) (u9 : Unit) => r9 = 0) := by
  refine fun sz => k_enter (cc := cX6_undo) (maxL := 1) (ret := some (.boolean)) (Qc := fun A => va_Qi (fun (r9 : Int32) (u9 : Unit) => r9 = 0) (fun u => k_B (dC, dI) vwCl (tyy cI cJ cZ cM) A ((fun (u9 : Unit) => [(p0, .inr (6, [.ref (p1 0), .int 0, .ref (p1 1), .ref (p1 14), .ref (p1 27), .ref (p1 28), .ref (p1 29), .ref (p1 30), .ref (p1 54), .null, .int 1, .int 1, .int 999, .ref (p1 61), .ref (p1 62), .ref (p1 63), .ref (p1 60)])), ((p1 30), .inr (1, [.ref (p1 31), .int 0, .ref (p1 32), .ref (p1 33), .int 0, .int 0])), ((p1 60), .inl (cI, 6, .inl (upd (fun _ => 0) 4 1)))]) u)) A) sz (by decide +kernel) rfl (Nat.le_of_ble_eq_true rfl) (fun p e s m args below meth c A ls H locs B hP hD hS hl => ?_)
  obtain ⟨hx, hb, hml, hown, hts, hr, hlk, hnm, hK, hA, hN, hC⟩ := id B
  have hown : s.vm.findClass RX6 = some m.cls := hown
  have hl : lv_has ls 1 [(0, .ref p0)] := hl
  have w_0 : (Cond.fieldLink RX6 45 "WishSea" "past" "LWishSea$Past;").before args s = true := hts _ (List.mem_of_getElem? (i := 1) rfl)
  have w_1 : (Cond.fieldLink RX6 166 "WishSea$Past" "undoable" "I").before args s = true := hts _ (List.mem_of_getElem? (i := 2) rfl)
  have hinX6 : ∀ w ∈ u_ws RX6 TX6 17, w ∈ wsX6_undo := fun _ h => List.mem_cons_of_mem _ (List.mem_append_left _ (List.mem_append_left _ (List.mem_append_right _ h)))
  have hinX1 : ∀ w ∈ u_ws RX1 TX1 6, w ∈ wsX6_undo := fun _ h => List.mem_cons_of_mem _ (List.mem_append_left _ (List.mem_append_right _ h))
  refine lv_aload_n hx hb dX6_undo_0 rfl (lv_at hl 0 rfl) ?_
  refine k_get (D := (dC, dI)) (ci := 6) (v := .ref (p1 30)) (C := RX6) (T := TX6) (N := 17) hx hb hts hinX6 hown hK hP 0 rfl rfl 7 (by decide) w_0 rfl rfl dX6_undo_1 ?_
  refine k_get (D := (dC, dI)) (ci := 1) (v := .int 0) (C := RX1) (T := TX1) (N := 6) hx hb hts hinX1 hown hK hP 1 rfl rfl 5 (by decide) w_1 rfl rfl dX6_undo_4 ?_
  refine lv_if_ne (tgt := 18) hx hb dX6_undo_7 (by decide) (fun q9 => absurd q9 (by decide +kernel)) (fun _ => ?_)
  refine lv_aload_n hx hb dX6_undo_10 rfl (lv_at hl 0 rfl) ?_
  refine lv_iconst (v := 4) hx hb dX6_undo_11 (by decide +kernel) ?_
  refine k_ci (wc := [(p0, .inr (6, [.ref (p1 0), .int 0, .ref (p1 1), .ref (p1 14), .ref (p1 27), .ref (p1 28), .ref (p1 29), .ref (p1 30), .ref (p1 54), .null, .int 1, .int 1, .int 999, .ref (p1 61), .ref (p1 62), .ref (p1 63), .ref (p1 60)])), ((p1 60), .inl (cI, 6, .inl (fun _ => 0)))]) (wr := [((p1 30), .inr (1, [.ref (p1 31), .int 0, .ref (p1 32), .ref (p1 33), .int 0, .int 0]))]) (fun hPc hDc hFc => va_runV (As := [.int 4]) (rest := []) ⟨hx, hb, hml, hown, hts⟩ (c_X6_refuse_v3 l dC dI cI cJ cZ cM p0 p1 H.size) (cwV 1 hts gX6_undo_X6_refuse rfl rfl rfl (by decide +kernel) ⟨(Nat.le_of_ble_eq_true rfl), (Nat.le_of_ble_eq_true rfl)⟩) (k_pV hPc hDc hK hN hC hS hFc hP (q0 := 0) (ci := 6) rfl rfl) rfl rfl hl.1 rfl (lv_room (Nat.le_of_ble_eq_true rfl)) dX6_undo_12 ⟨(Nat.le_of_ble_eq_true rfl), (Nat.le_of_ble_eq_true rfl)⟩) hP hD hS hA [0, 2] [1] rfl rfl rfl rfl (by decide) (fun _ => rfl) 0 0 rfl rfl (fun r_1 u_2 H locs hw hP hD hS => ?_)
  obtain rfl : r_1 = (-1) := hw
  have hP : va_P (dC, dI) vwCl [((p1 30), .inr (1, [.ref (p1 31), .int 0, .ref (p1 32), .ref (p1 33), .int 0, .int 0])), (p0, .inr (6, [.ref (p1 0), .int 0, .ref (p1 1), .ref (p1 14), .ref (p1 27), .ref (p1 28), .ref (p1 29), .ref (p1 30), .ref (p1 54), .null, .int 1, .int 1, .int 999, .ref (p1 61), .ref (p1 62), .ref (p1 63), .ref (p1 60)])), ((p1 60), .inl (cI, 6, .inl (upd (fun _ => 0) 4 1)))] H := hP
  have hD : va_D A [((p1 30), .inr (1, [.ref (p1 31), .int 0, .ref (p1 32), .ref (p1 33), .int 0, .int 0])), (p0, .inr (6, [.ref (p1 0), .int 0, .ref (p1 1), .ref (p1 14), .ref (p1 27), .ref (p1 28), .ref (p1 29), .ref (p1 30), .ref (p1 54), .null, .int 1, .int 1, .int 999, .ref (p1 61), .ref (p1 62), .ref (p1 63), .ref (p1 60)])), ((p1 60), .inl (cI, 6, .inl (upd (fun _ => 0) 4 1)))] := hD
  refine lv_pop hx hb dX6_undo_15 rfl ?_
  refine lv_iconst (v := 0) hx hb dX6_undo_16 (by decide +kernel) ?_
  exact k_ri B hP hD hS dX6_undo_17 () [1, 0, 2] rfl rfl rfl (Nat.le_of_ble_eq_true rfl) (Nat.le_of_ble_eq_true rfl) rfl
set_option maxHeartbeats 4000000 in
set_option maxRecDepth 100000 in
theorem c_X7_refuses_v3 (l : Launch) (dC : Nat → ClassId) (dI : Nat → Nat → Nat) (cI cJ cZ cM : ClassId) (p0 : Nat) (p1 : Nat → Nat)   : k_Mi l yX7_refuses wsX7_refuses ({ frames := 1, cells := 0, slots := 0, locals := 40 }) (dC, dI) vwCl (tyy cI cJ cZ cM) [(p0, .inr (7, oM p1 i7 j7)), ((p1 48), .inl (cI, 6, .inl (fun _ => 0)))] [.ref p0, .int 4] 0 0 (fun (u9 : Unit) => [(p0, .inr (7, oM p1 i7 j7)), ((p1 48), .inl (cI, 6, .inl (upd (fun _ => 0) 4 1)))]) (fun (r9 : Int32) (u9 : Unit) => r9 = (-1)) := by
  refine fun sz => k_enter (cc := cX7_refuses) (maxL := 2) (ret := some (.int)) (Qc := fun A => va_Qi (fun (r9 : Int32) (u9 : Unit) => r9 = (-1)) (fun u => k_B (dC, dI) vwCl (tyy cI cJ cZ cM) A ((fun (u9 : Unit) => [(p0, .inr (7, oM p1 i7 j7)), ((p1 48), .inl (cI, 6, .inl (upd (fun _ => 0) 4 1)))]) u)) A) sz (by decide +kernel) rfl (Nat.le_of_ble_eq_true rfl) (fun p e s m args below meth c A ls H locs B hP hD hS hl => ?_)
  obtain ⟨hx, hb, hml, hown, hts, hr, hlk, hnm, hK, hA, hN, hC⟩ := id B
  have hown : s.vm.findClass RX7 = some m.cls := hown
  have hl : lv_has ls 2 [(0, .ref p0), (1, .int 4)] := hl
  have w_0 : (Cond.fieldLink RX7 159 "WishSeaModel" "refused" "[I").before args s = true := hts _ (List.mem_of_getElem? (i := 1) rfl)
  have hinX7 : ∀ w ∈ u_ws RX7 TX7 92, w ∈ wsX7_refuses := fun _ h => List.mem_cons_of_mem _ (List.mem_append_right _ h)
  refine lv_aload_n hx hb dX7_refuses_0 rfl (lv_at hl 0 rfl) ?_
  refine k_get (D := (dC, dI)) (ci := 7) (v := .ref (p1 48)) (C := RX7) (T := TX7) (N := 92) hx hb hts hinX7 hown hK hP 0 rfl rfl 48 (by decide) w_0 rfl rfl dX7_refuses_1 ?_
  refine lv_iload_n hx hb dX7_refuses_4 rfl (lv_at hl 1 rfl) ?_
  refine lv_dup2_11 hx hb dX7_refuses_5 rfl rfl ?_
  refine k_iald (v := 0) hx hb hK hP 1 0 4 rfl rfl rfl (Nat.le_of_ble_eq_true rfl) (Nat.le_of_ble_eq_true rfl) rfl dX7_refuses_6 ?_
  refine lv_iconst (v := 1) hx hb dX7_refuses_7 (by decide +kernel) ?_
  refine lv_iadd hx hb dX7_refuses_8 ?_
  refine k_int (v := 1) (by decide +kernel) ?_
  refine k_iast (g := (upd (fun _ => 0) 4 1)) (ws' := [(p0, .inr (7, oM p1 i7 j7)), ((p1 48), .inl (cI, 6, .inl (upd (fun _ => 0) 4 1)))]) hx hb hK hP hD hS 1 0 4 rfl rfl rfl (Nat.le_of_ble_eq_true rfl) (Nat.le_of_ble_eq_true rfl) rfl rfl dX7_refuses_9 (fun H locs hP hD hS => ?_)
  refine lv_iconst (v := (-1)) hx hb dX7_refuses_10 (by decide +kernel) ?_
  exact k_ri B hP hD hS dX7_refuses_11 () [0, 1] rfl rfl rfl (Nat.le_of_ble_eq_true rfl) (Nat.le_of_ble_eq_true rfl) rfl
set_option maxHeartbeats 4000000 in
set_option maxRecDepth 100000 in
theorem c_X7_undo_v0 (l : Launch) (dC : Nat → ClassId) (dI : Nat → Nat → Nat) (cI cJ cZ cM : ClassId) (p0 : Nat) (p1 : Nat → Nat)   : k_Mi l yX7_undo wsX7_undo ({ frames := 2, cells := 0, slots := 0, locals := 61 }) (dC, dI) vwCl (tyy cI cJ cZ cM) [(p0, .inr (7, oM p1 i7 j7)), ((p1 48), .inl (cI, 6, .inl (fun _ => 0)))] [.ref p0] 0 0 (fun (u9 : Unit) => [(p0, .inr (7, oM p1 i7 j7)), ((p1 48), .inl (cI, 6, .inl (upd (fun _ => 0) 4 1)))]) (fun (r9 : Int32) (u9 : Unit) => r9 = 0) := by
  refine fun sz => k_enter (cc := cX7_undo) (maxL := 1) (ret := some (.boolean)) (Qc := fun A => va_Qi (fun (r9 : Int32) (u9 : Unit) => r9 = 0) (fun u => k_B (dC, dI) vwCl (tyy cI cJ cZ cM) A ((fun (u9 : Unit) => [(p0, .inr (7, oM p1 i7 j7)), ((p1 48), .inl (cI, 6, .inl (upd (fun _ => 0) 4 1)))]) u)) A) sz (by decide +kernel) rfl (Nat.le_of_ble_eq_true rfl) (fun p e s m args below meth c A ls H locs B hP hD hS hl => ?_)
  obtain ⟨hx, hb, hml, hown, hts, hr, hlk, hnm, hK, hA, hN, hC⟩ := id B
  have hown : s.vm.findClass RX7 = some m.cls := hown
  have hl : lv_has ls 1 [(0, .ref p0)] := hl
  have w_0 : (Cond.fieldLink RX7 192 "WishSeaModel" "undos" "I").before args s = true := hts _ (List.mem_of_getElem? (i := 1) rfl)
  have hinX7 : ∀ w ∈ u_ws RX7 TX7 92, w ∈ wsX7_undo := fun _ h => List.mem_cons_of_mem _ (List.mem_append_right _ h)
  refine lv_aload_n hx hb dX7_undo_0 rfl (lv_at hl 0 rfl) ?_
  refine k_get (D := (dC, dI)) (ci := 7) (v := .int 0) (C := RX7) (T := TX7) (N := 92) hx hb hts hinX7 hown hK hP 0 rfl rfl 59 (by decide) w_0 rfl rfl dX7_undo_1 ?_
  refine lv_if_ne (tgt := 21) hx hb dX7_undo_4 (by decide) (fun q9 => absurd q9 (by decide +kernel)) (fun _ => ?_)
  refine lv_aload_n hx hb dX7_undo_7 rfl (lv_at hl 0 rfl) ?_
  refine lv_iconst (v := 4) hx hb dX7_undo_8 (by decide +kernel) ?_
  refine k_ci (wc := [(p0, .inr (7, oM p1 i7 j7)), ((p1 48), .inl (cI, 6, .inl (fun _ => 0)))]) (wr := []) (fun hPc hDc hFc => va_runV (As := [.int 4]) (rest := []) ⟨hx, hb, hml, hown, hts⟩ (c_X7_refuses_v3 l dC dI cI cJ cZ cM p0 p1 H.size) (cwV 1 hts gX7_undo_X7_refuses rfl rfl rfl (by decide +kernel) ⟨(Nat.le_of_ble_eq_true rfl), (Nat.le_of_ble_eq_true rfl)⟩) (k_pV hPc hDc hK hN hC hS hFc hP (q0 := 0) (ci := 7) rfl rfl) rfl rfl hl.1 rfl (lv_room (Nat.le_of_ble_eq_true rfl)) dX7_undo_9 ⟨(Nat.le_of_ble_eq_true rfl), (Nat.le_of_ble_eq_true rfl)⟩) hP hD hS hA [0, 1] [] rfl rfl rfl rfl (by decide) (fun _ => rfl) 0 0 rfl rfl (fun r_1 u_2 H locs hw hP hD hS => ?_)
  obtain rfl : r_1 = (-1) := hw
  have hP : va_P (dC, dI) vwCl [(p0, .inr (7, oM p1 i7 j7)), ((p1 48), .inl (cI, 6, .inl (upd (fun _ => 0) 4 1)))] H := hP
  have hD : va_D A [(p0, .inr (7, oM p1 i7 j7)), ((p1 48), .inl (cI, 6, .inl (upd (fun _ => 0) 4 1)))] := hD
  refine lv_if_lt (tgt := 19) hx hb dX7_undo_12 (by decide) (fun _ => ?_) (fun q9 => absurd q9 (by decide +kernel))
  refine lv_iconst (v := 0) hx hb dX7_undo_19 (by decide +kernel) ?_
  exact k_ri B hP hD hS dX7_undo_20 () [0, 1] rfl rfl rfl (Nat.le_of_ble_eq_true rfl) (Nat.le_of_ble_eq_true rfl) rfl
set_option maxHeartbeats 4000000 in
set_option maxRecDepth 100000 in
theorem c_X6_refuse_v4 (l : Launch) (dC : Nat → ClassId) (dI : Nat → Nat → Nat) (cI cJ cZ cM : ClassId) (p0 : Nat) (p1 : Nat → Nat)   : k_Mi l yX6_refuse wsX6_refuse ({ frames := 1, cells := 0, slots := 0, locals := 40 }) (dC, dI) vwCl (tyy cI cJ cZ cM) [(p0, .inr (6, [.ref (p1 0), .int 0, .ref (p1 1), .ref (p1 14), .ref (p1 27), .ref (p1 28), .ref (p1 29), .ref (p1 30), .ref (p1 54), .null, .int 1, .int 1, .int 999, .ref (p1 61), .ref (p1 62), .ref (p1 63), .ref (p1 60)])), ((p1 60), .inl (cI, 6, .inl (fun _ => 0)))] [.ref p0, .int 5] 0 0 (fun (u9 : Unit) => [(p0, .inr (6, [.ref (p1 0), .int 0, .ref (p1 1), .ref (p1 14), .ref (p1 27), .ref (p1 28), .ref (p1 29), .ref (p1 30), .ref (p1 54), .null, .int 1, .int 1, .int 999, .ref (p1 61), .ref (p1 62), .ref (p1 63), .ref (p1 60)])), ((p1 60), .inl (cI, 6, .inl (upd (fun _ => 0) 5 1)))]) (fun (r9 : Int32) (u9 : Unit) => r9 = (-1)) := by
  refine fun sz => k_enter (cc := cX6_refuse) (maxL := 2) (ret := some (.int)) (Qc := fun A => va_Qi (fun (r9 : Int32) (u9 : Unit) => r9 = (-1)) (fun u => k_B (dC, dI) vwCl (tyy cI cJ cZ cM) A ((fun (u9 : Unit) => [(p0, .inr (6, [.ref (p1 0), .int 0, .ref (p1 1), .ref (p1 14), .ref (p1 27), .ref (p1 28), .ref (p1 29), .ref (p1 30), .ref (p1 54), .null, .int 1, .int 1, .int 999, .ref (p1 61), .ref (p1 62), .ref (p1 63), .ref (p1 60)])), ((p1 60), .inl (cI, 6, .inl (upd (fun _ => 0) 5 1)))]) u)) A) sz (by decide +kernel) rfl (Nat.le_of_ble_eq_true rfl) (fun p e s m args below meth c A ls H locs B hP hD hS hl => ?_)
  obtain ⟨hx, hb, hml, hown, hts, hr, hlk, hnm, hK, hA, hN, hC⟩ := id B
  have hown : s.vm.findClass RX6 = some m.cls := hown
  have hl : lv_has ls 2 [(0, .ref p0), (1, .int 5)] := hl
  have w_0 : (Cond.fieldLink RX6 78 "WishSea" "refused" "[I").before args s = true := hts _ (List.mem_of_getElem? (i := 1) rfl)
  have hinX6 : ∀ w ∈ u_ws RX6 TX6 17, w ∈ wsX6_refuse := fun _ h => List.mem_cons_of_mem _ (List.mem_append_right _ h)
  refine lv_iload_n hx hb dX6_refuse_0 rfl (lv_at hl 1 rfl) ?_
  refine lv_if_lt (tgt := 23) hx hb dX6_refuse_1 (by decide) (fun q9 => absurd q9 (by decide +kernel)) (fun _ => ?_)
  refine lv_iload_n hx hb dX6_refuse_4 rfl (lv_at hl 1 rfl) ?_
  refine lv_aload_n hx hb dX6_refuse_5 rfl (lv_at hl 0 rfl) ?_
  refine k_get (D := (dC, dI)) (ci := 6) (v := .ref (p1 60)) (C := RX6) (T := TX6) (N := 17) hx hb hts hinX6 hown hK hP 0 rfl rfl 16 (by decide) w_0 rfl rfl dX6_refuse_6 ?_
  refine va_alen (v := 6) hx hb hK hP 1 0 rfl rfl rfl dX6_refuse_9 ?_
  refine lv_icmp_ge (tgt := 23) hx hb dX6_refuse_10 (by decide) (fun q9 => absurd q9 (by decide +kernel)) (fun _ => ?_)
  refine lv_aload_n hx hb dX6_refuse_13 rfl (lv_at hl 0 rfl) ?_
  refine k_get (D := (dC, dI)) (ci := 6) (v := .ref (p1 60)) (C := RX6) (T := TX6) (N := 17) hx hb hts hinX6 hown hK hP 0 rfl rfl 16 (by decide) w_0 rfl rfl dX6_refuse_14 ?_
  refine lv_iload_n hx hb dX6_refuse_17 rfl (lv_at hl 1 rfl) ?_
  refine lv_dup2_11 hx hb dX6_refuse_18 rfl rfl ?_
  refine k_iald (v := 0) hx hb hK hP 1 0 5 rfl rfl rfl (Nat.le_of_ble_eq_true rfl) (Nat.le_of_ble_eq_true rfl) rfl dX6_refuse_19 ?_
  refine lv_iconst (v := 1) hx hb dX6_refuse_20 (by decide +kernel) ?_
  refine lv_iadd hx hb dX6_refuse_21 ?_
  refine k_int (v := 1) (by decide +kernel) ?_
  refine k_iast (g := (upd (fun _ => 0) 5 1)) (ws' := [(p0, .inr (6, [.ref (p1 0), .int 0, .ref (p1 1), .ref (p1 14), .ref (p1 27), .ref (p1 28), .ref (p1 29), .ref (p1 30), .ref (p1 54), .null, .int 1, .int 1, .int 999, .ref (p1 61), .ref (p1 62), .ref (p1 63), .ref (p1 60)])), ((p1 60), .inl (cI, 6, .inl (upd (fun _ => 0) 5 1)))]) hx hb hK hP hD hS 1 0 5 rfl rfl rfl (Nat.le_of_ble_eq_true rfl) (Nat.le_of_ble_eq_true rfl) rfl rfl dX6_refuse_22 (fun H locs hP hD hS => ?_)
  refine lv_iconst (v := (-1)) hx hb dX6_refuse_23 (by decide +kernel) ?_
  exact k_ri B hP hD hS dX6_refuse_24 () [0, 1] rfl rfl rfl (Nat.le_of_ble_eq_true rfl) (Nat.le_of_ble_eq_true rfl) rfl
set_option maxHeartbeats 4000000 in
set_option maxRecDepth 100000 in
theorem c_X6_seed_v0 (l : Launch) (dC : Nat → ClassId) (dI : Nat → Nat → Nat) (cI cJ cZ cM : ClassId) (p0 : Nat) (p1 : Int32) (p2 : Nat → Nat)   : k_Mi l yX6_seed wsX6_seed ({ frames := 2, cells := 0, slots := 0, locals := 61 }) (dC, dI) vwCl (tyy cI cJ cZ cM) [(p0, .inr (6, [.ref (p2 0), .int 0, .ref (p2 1), .ref (p2 14), .ref (p2 27), .ref (p2 28), .ref (p2 29), .ref (p2 30), .ref (p2 54), .null, .int 1, .int 1, .int 999, .ref (p2 61), .ref (p2 62), .ref (p2 63), .ref (p2 60)])), ((p2 60), .inl (cI, 6, .inl (fun _ => 0)))] [.ref p0, .int p1] 0 0 (fun (u9 : (Nat × (Nat → Nat))) => match u9.1 with | 0 => [(p0, .inr (6, [.ref (p2 0), .int 0, .ref (p2 1), .ref (p2 14), .ref (p2 27), .ref (p2 28), .ref (p2 29), .ref (p2 30), .ref (p2 54), .null, .int p1, .int 1, .int 999, .ref (p2 61), .ref (p2 62), .ref (p2 63), .ref (p2 60)])), ((p2 60), .inl (cI, 6, .inl (fun _ => 0)))] | 1 => [(p0, .inr (6, [.ref (p2 0), .int 0, .ref (p2 1), .ref (p2 14), .ref (p2 27), .ref (p2 28), .ref (p2 29), .ref (p2 30), .ref (p2 54), .null, .int 1, .int 1, .int 999, .ref (p2 61), .ref (p2 62), .ref (p2 63), .ref (p2 60)])), ((p2 60), .inl (cI, 6, .inl (upd (fun _ => 0) 5 1)))] | _ => []) (fun (r9 : Int32) (u9 : (Nat × (Nat → Nat))) => match u9.1 with | 0 => (0 ≤ p1.toInt) ∧ r9 = 1 | 1 => (p1.toInt < 0) ∧ r9 = 0 | _ => False) := by
  refine fun sz => k_enter (cc := cX6_seed) (maxL := 2) (ret := some (.boolean)) (Qc := fun A => va_Qi (fun (r9 : Int32) (u9 : (Nat × (Nat → Nat))) => match u9.1 with | 0 => (0 ≤ p1.toInt) ∧ r9 = 1 | 1 => (p1.toInt < 0) ∧ r9 = 0 | _ => False) (fun u => k_B (dC, dI) vwCl (tyy cI cJ cZ cM) A ((fun (u9 : (Nat × (Nat → Nat))) => match u9.1 with | 0 => [(p0, .inr (6, [.ref (p2 0), .int 0, .ref (p2 1), .ref (p2 14), .ref (p2 27), .ref (p2 28), .ref (p2 29), .ref (p2 30), .ref (p2 54), .null, .int p1, .int 1, .int 999, .ref (p2 61), .ref (p2 62), .ref (p2 63), .ref (p2 60)])), ((p2 60), .inl (cI, 6, .inl (fun _ => 0)))] | 1 => [(p0, .inr (6, [.ref (p2 0), .int 0, .ref (p2 1), .ref (p2 14), .ref (p2 27), .ref (p2 28), .ref (p2 29), .ref (p2 30), .ref (p2 54), .null, .int 1, .int 1, .int 999, .ref (p2 61), .ref (p2 62), .ref (p2 63), .ref (p2 60)])), ((p2 60), .inl (cI, 6, .inl (upd (fun _ => 0) 5 1)))] | _ => []) u)) A) sz (by decide +kernel) rfl (Nat.le_of_ble_eq_true rfl) (fun p e s m args below meth c A ls H locs B hP hD hS hl => ?_)
  obtain ⟨hx, hb, hml, hown, hts, hr, hlk, hnm, hK, hA, hN, hC⟩ := id B
  have hown : s.vm.findClass RX6 = some m.cls := hown
  have hl : lv_has ls 2 [(0, .ref p0), (1, .int p1)] := hl
  have w_0 : (Cond.fieldLink RX6 58 "WishSea" "chance" "I").before args s = true := hts _ (List.mem_of_getElem? (i := 1) rfl)
  have hinX6 : ∀ w ∈ u_ws RX6 TX6 17, w ∈ wsX6_seed := fun _ h => List.mem_cons_of_mem _ (List.mem_append_right _ h)
  refine lv_iload_n hx hb dX6_seed_0 rfl (lv_at hl 1 rfl) ?_
  refine lv_if_ge (tgt := 12) hx hb dX6_seed_1 (by decide) (fun c_1 => ?_) (fun c_1 => ?_)
  · have c_1 : 0 ≤ p1.toInt := k_leT (by decide +kernel) rfl c_1
    refine lv_aload_n hx hb dX6_seed_12 rfl (lv_at hl 0 rfl) ?_
    refine lv_iload_n hx hb dX6_seed_13 rfl (lv_at hl 1 rfl) ?_
    refine k_put (D := (dC, dI)) (ci := 6) (v := .int p1) (C := RX6) (T := TX6) (N := 17) (ws' := [(p0, .inr (6, [.ref (p2 0), .int 0, .ref (p2 1), .ref (p2 14), .ref (p2 27), .ref (p2 28), .ref (p2 29), .ref (p2 30), .ref (p2 54), .null, .int p1, .int 1, .int 999, .ref (p2 61), .ref (p2 62), .ref (p2 63), .ref (p2 60)])), ((p2 60), .inl (cI, 6, .inl (fun _ => 0)))]) hx hb hts hinX6 tyX6 tyX6_ok nmX6 hown hK hP hD hS 0 rfl rfl 10 (by decide) w_0 rfl rfl rfl rfl (Nat.le_of_ble_eq_true rfl) rfl dX6_seed_14 (fun H locs hP hD hS => ?_)
    refine lv_iconst (v := 1) hx hb dX6_seed_17 (by decide +kernel) ?_
    exact k_ri B hP hD hS dX6_seed_18 (0, (fun _ => 0)) [0, 1] rfl rfl rfl (Nat.le_of_ble_eq_true rfl) (Nat.le_of_ble_eq_true rfl) ⟨c_1, rfl⟩
  · have c_1 : p1.toInt < 0 := k_leF (by decide +kernel) rfl c_1
    refine lv_aload_n hx hb dX6_seed_4 rfl (lv_at hl 0 rfl) ?_
    refine lv_iconst (v := 5) hx hb dX6_seed_5 (by decide +kernel) ?_
    refine k_ci (wc := [(p0, .inr (6, [.ref (p2 0), .int 0, .ref (p2 1), .ref (p2 14), .ref (p2 27), .ref (p2 28), .ref (p2 29), .ref (p2 30), .ref (p2 54), .null, .int 1, .int 1, .int 999, .ref (p2 61), .ref (p2 62), .ref (p2 63), .ref (p2 60)])), ((p2 60), .inl (cI, 6, .inl (fun _ => 0)))]) (wr := []) (fun hPc hDc hFc => va_runV (As := [.int 5]) (rest := []) ⟨hx, hb, hml, hown, hts⟩ (c_X6_refuse_v4 l dC dI cI cJ cZ cM p0 p2 H.size) (cwV 1 hts gX6_seed_X6_refuse rfl rfl rfl (by decide +kernel) ⟨(Nat.le_of_ble_eq_true rfl), (Nat.le_of_ble_eq_true rfl)⟩) (k_pV hPc hDc hK hN hC hS hFc hP (q0 := 0) (ci := 6) rfl rfl) rfl rfl hl.1 rfl (lv_room (Nat.le_of_ble_eq_true rfl)) dX6_seed_6 ⟨(Nat.le_of_ble_eq_true rfl), (Nat.le_of_ble_eq_true rfl)⟩) hP hD hS hA [0, 1] [] rfl rfl rfl rfl (by decide) (fun _ => rfl) 0 0 rfl rfl (fun r_2 u_3 H locs hw hP hD hS => ?_)
    obtain rfl : r_2 = (-1) := hw
    have hP : va_P (dC, dI) vwCl [(p0, .inr (6, [.ref (p2 0), .int 0, .ref (p2 1), .ref (p2 14), .ref (p2 27), .ref (p2 28), .ref (p2 29), .ref (p2 30), .ref (p2 54), .null, .int 1, .int 1, .int 999, .ref (p2 61), .ref (p2 62), .ref (p2 63), .ref (p2 60)])), ((p2 60), .inl (cI, 6, .inl (upd (fun _ => 0) 5 1)))] H := hP
    have hD : va_D A [(p0, .inr (6, [.ref (p2 0), .int 0, .ref (p2 1), .ref (p2 14), .ref (p2 27), .ref (p2 28), .ref (p2 29), .ref (p2 30), .ref (p2 54), .null, .int 1, .int 1, .int 999, .ref (p2 61), .ref (p2 62), .ref (p2 63), .ref (p2 60)])), ((p2 60), .inl (cI, 6, .inl (upd (fun _ => 0) 5 1)))] := hD
    refine lv_pop hx hb dX6_seed_9 rfl ?_
    refine lv_iconst (v := 0) hx hb dX6_seed_10 (by decide +kernel) ?_
    exact k_ri B hP hD hS dX6_seed_11 (1, (fun _ => 0)) [0, 1] rfl rfl rfl (Nat.le_of_ble_eq_true rfl) (Nat.le_of_ble_eq_true rfl) ⟨c_1, rfl⟩
set_option maxHeartbeats 4000000 in
set_option maxRecDepth 100000 in
theorem c_X7_seed_v0 (l : Launch) (dC : Nat → ClassId) (dI : Nat → Nat → Nat) (cI cJ cZ cM : ClassId) (p0 : Nat) (p1 : Int32) (p2 : Nat → Nat) (b_0 : 0 ≤ p1.toInt) (t_0 : p1.toInt ≤ 2147483647)  : k_Mi l yX7_seed wsX7_seed ({ frames := 1, cells := 0, slots := 0, locals := 40 }) (dC, dI) vwCl (tyy cI cJ cZ cM) [(p0, .inr (7, oM p2 i7 j7))] [.ref p0, .int p1] 0 0 (fun (u9 : Unit) => [(p0, .inr (7, oM p2 i7 (vp_updL j7 60 p1.toInt64)))]) (fun (r9 : Int32) (u9 : Unit) => r9 = 1) := by
  refine fun sz => k_enter (cc := cX7_seed) (maxL := 2) (ret := some (.boolean)) (Qc := fun A => va_Qi (fun (r9 : Int32) (u9 : Unit) => r9 = 1) (fun u => k_B (dC, dI) vwCl (tyy cI cJ cZ cM) A ((fun (u9 : Unit) => [(p0, .inr (7, oM p2 i7 (vp_updL j7 60 p1.toInt64)))]) u)) A) sz (by decide +kernel) rfl (Nat.le_of_ble_eq_true rfl) (fun p e s m args below meth c A ls H locs B hP hD hS hl => ?_)
  obtain ⟨hx, hb, hml, hown, hts, hr, hlk, hnm, hK, hA, hN, hC⟩ := id B
  have hown : s.vm.findClass RX7 = some m.cls := hown
  have hl : lv_has ls 2 [(0, .ref p0), (1, .int p1)] := hl
  have w_0 : (Cond.fieldLink RX7 195 "WishSeaModel" "seeds" "J").before args s = true := hts _ (List.mem_of_getElem? (i := 1) rfl)
  have hinX7 : ∀ w ∈ u_ws RX7 TX7 92, w ∈ wsX7_seed := fun _ h => List.mem_cons_of_mem _ (List.mem_append_right _ h)
  refine lv_iload_n hx hb dX7_seed_0 rfl (lv_at hl 1 rfl) ?_
  refine lv_if_ge (tgt := 18) hx hb dX7_seed_1 (by decide) (fun c_1 => ?_) (fun c_1 => ?_)
  · have c_1 : 0 ≤ p1.toInt := k_leT (by decide +kernel) rfl c_1
    refine lv_aload_n hx hb dX7_seed_18 rfl (lv_at hl 0 rfl) ?_
    refine lv_iload_n hx hb dX7_seed_19 rfl (lv_at hl 1 rfl) ?_
    refine lv_i2l (v := p1.toInt64) hx hb dX7_seed_20 rfl ?_
    refine lv_topl (fun y_2 ey_2 => ?_)
    refine k_put (D := (dC, dI)) (ci := 7) (v := .long y_2) (C := RX7) (T := TX7) (N := 92) (ws' := [(p0, .inr (7, oM p2 i7 (vp_updL j7 60 y_2)))]) hx hb hts hinX7 tyX7 tyX7_ok nmX7 hown hK hP hD hS 0 rfl rfl 60 (by decide) w_0 rfl rfl rfl rfl (Nat.le_of_ble_eq_true rfl) rfl dX7_seed_21 (fun H locs hP hD hS => ?_)
    refine lv_iconst (v := 1) hx hb dX7_seed_24 (by decide +kernel) ?_
    subst ey_2
    exact k_ri B hP hD hS dX7_seed_25 () [0] rfl rfl rfl (Nat.le_of_ble_eq_true rfl) (Nat.le_of_ble_eq_true rfl) rfl
  · have c_1 : p1.toInt < 0 := k_leF (by decide +kernel) rfl c_1
    exfalso; omega
set_option maxHeartbeats 4000000 in
set_option maxRecDepth 100000 in
theorem c_X7_refuses_v4 (l : Launch) (dC : Nat → ClassId) (dI : Nat → Nat → Nat) (cI cJ cZ cM : ClassId) (p0 : Nat) (p1 : Nat → Nat)   : k_Mi l yX7_refuses wsX7_refuses ({ frames := 1, cells := 0, slots := 0, locals := 40 }) (dC, dI) vwCl (tyy cI cJ cZ cM) [(p0, .inr (7, oM p1 i7 j7)), ((p1 48), .inl (cI, 6, .inl (fun _ => 0)))] [.ref p0, .int 5] 0 0 (fun (u9 : Unit) => [(p0, .inr (7, oM p1 i7 j7)), ((p1 48), .inl (cI, 6, .inl (upd (fun _ => 0) 5 1)))]) (fun (r9 : Int32) (u9 : Unit) => r9 = (-1)) := by
  refine fun sz => k_enter (cc := cX7_refuses) (maxL := 2) (ret := some (.int)) (Qc := fun A => va_Qi (fun (r9 : Int32) (u9 : Unit) => r9 = (-1)) (fun u => k_B (dC, dI) vwCl (tyy cI cJ cZ cM) A ((fun (u9 : Unit) => [(p0, .inr (7, oM p1 i7 j7)), ((p1 48), .inl (cI, 6, .inl (upd (fun _ => 0) 5 1)))]) u)) A) sz (by decide +kernel) rfl (Nat.le_of_ble_eq_true rfl) (fun p e s m args below meth c A ls H locs B hP hD hS hl => ?_)
  obtain ⟨hx, hb, hml, hown, hts, hr, hlk, hnm, hK, hA, hN, hC⟩ := id B
  have hown : s.vm.findClass RX7 = some m.cls := hown
  have hl : lv_has ls 2 [(0, .ref p0), (1, .int 5)] := hl
  have w_0 : (Cond.fieldLink RX7 159 "WishSeaModel" "refused" "[I").before args s = true := hts _ (List.mem_of_getElem? (i := 1) rfl)
  have hinX7 : ∀ w ∈ u_ws RX7 TX7 92, w ∈ wsX7_refuses := fun _ h => List.mem_cons_of_mem _ (List.mem_append_right _ h)
  refine lv_aload_n hx hb dX7_refuses_0 rfl (lv_at hl 0 rfl) ?_
  refine k_get (D := (dC, dI)) (ci := 7) (v := .ref (p1 48)) (C := RX7) (T := TX7) (N := 92) hx hb hts hinX7 hown hK hP 0 rfl rfl 48 (by decide) w_0 rfl rfl dX7_refuses_1 ?_
  refine lv_iload_n hx hb dX7_refuses_4 rfl (lv_at hl 1 rfl) ?_
  refine lv_dup2_11 hx hb dX7_refuses_5 rfl rfl ?_
  refine k_iald (v := 0) hx hb hK hP 1 0 5 rfl rfl rfl (Nat.le_of_ble_eq_true rfl) (Nat.le_of_ble_eq_true rfl) rfl dX7_refuses_6 ?_
  refine lv_iconst (v := 1) hx hb dX7_refuses_7 (by decide +kernel) ?_
  refine lv_iadd hx hb dX7_refuses_8 ?_
  refine k_int (v := 1) (by decide +kernel) ?_
  refine k_iast (g := (upd (fun _ => 0) 5 1)) (ws' := [(p0, .inr (7, oM p1 i7 j7)), ((p1 48), .inl (cI, 6, .inl (upd (fun _ => 0) 5 1)))]) hx hb hK hP hD hS 1 0 5 rfl rfl rfl (Nat.le_of_ble_eq_true rfl) (Nat.le_of_ble_eq_true rfl) rfl rfl dX7_refuses_9 (fun H locs hP hD hS => ?_)
  refine lv_iconst (v := (-1)) hx hb dX7_refuses_10 (by decide +kernel) ?_
  exact k_ri B hP hD hS dX7_refuses_11 () [0, 1] rfl rfl rfl (Nat.le_of_ble_eq_true rfl) (Nat.le_of_ble_eq_true rfl) rfl
set_option maxHeartbeats 4000000 in
set_option maxRecDepth 100000 in
theorem c_X7_seed_v1 (l : Launch) (dC : Nat → ClassId) (dI : Nat → Nat → Nat) (cI cJ cZ cM : ClassId) (p0 : Nat) (p1 : Int32) (p2 : Nat → Nat) (b_0 : -2147483648 ≤ p1.toInt) (t_0 : p1.toInt ≤ -1)  : k_Mi l yX7_seed wsX7_seed ({ frames := 2, cells := 0, slots := 0, locals := 61 }) (dC, dI) vwCl (tyy cI cJ cZ cM) [(p0, .inr (7, oM p2 i7 j7)), ((p2 48), .inl (cI, 6, .inl (fun _ => 0)))] [.ref p0, .int p1] 0 0 (fun (u9 : Unit) => [(p0, .inr (7, oM p2 i7 j7)), ((p2 48), .inl (cI, 6, .inl (upd (fun _ => 0) 5 1)))]) (fun (r9 : Int32) (u9 : Unit) => r9 = 0) := by
  refine fun sz => k_enter (cc := cX7_seed) (maxL := 2) (ret := some (.boolean)) (Qc := fun A => va_Qi (fun (r9 : Int32) (u9 : Unit) => r9 = 0) (fun u => k_B (dC, dI) vwCl (tyy cI cJ cZ cM) A ((fun (u9 : Unit) => [(p0, .inr (7, oM p2 i7 j7)), ((p2 48), .inl (cI, 6, .inl (upd (fun _ => 0) 5 1)))]) u)) A) sz (by decide +kernel) rfl (Nat.le_of_ble_eq_true rfl) (fun p e s m args below meth c A ls H locs B hP hD hS hl => ?_)
  obtain ⟨hx, hb, hml, hown, hts, hr, hlk, hnm, hK, hA, hN, hC⟩ := id B
  have hown : s.vm.findClass RX7 = some m.cls := hown
  have hl : lv_has ls 2 [(0, .ref p0), (1, .int p1)] := hl
  refine lv_iload_n hx hb dX7_seed_0 rfl (lv_at hl 1 rfl) ?_
  refine lv_if_ge (tgt := 18) hx hb dX7_seed_1 (by decide) (fun c_1 => ?_) (fun c_1 => ?_)
  · have c_1 : 0 ≤ p1.toInt := k_leT (by decide +kernel) rfl c_1
    exfalso; omega
  · have c_1 : p1.toInt < 0 := k_leF (by decide +kernel) rfl c_1
    refine lv_aload_n hx hb dX7_seed_4 rfl (lv_at hl 0 rfl) ?_
    refine lv_iconst (v := 5) hx hb dX7_seed_5 (by decide +kernel) ?_
    refine k_ci (wc := [(p0, .inr (7, oM p2 i7 j7)), ((p2 48), .inl (cI, 6, .inl (fun _ => 0)))]) (wr := []) (fun hPc hDc hFc => va_runV (As := [.int 5]) (rest := []) ⟨hx, hb, hml, hown, hts⟩ (c_X7_refuses_v4 l dC dI cI cJ cZ cM p0 p2 H.size) (cwV 1 hts gX7_seed_X7_refuses rfl rfl rfl (by decide +kernel) ⟨(Nat.le_of_ble_eq_true rfl), (Nat.le_of_ble_eq_true rfl)⟩) (k_pV hPc hDc hK hN hC hS hFc hP (q0 := 0) (ci := 7) rfl rfl) rfl rfl hl.1 rfl (lv_room (Nat.le_of_ble_eq_true rfl)) dX7_seed_6 ⟨(Nat.le_of_ble_eq_true rfl), (Nat.le_of_ble_eq_true rfl)⟩) hP hD hS hA [0, 1] [] rfl rfl rfl rfl (by decide) (fun _ => rfl) 0 0 rfl rfl (fun r_2 u_3 H locs hw hP hD hS => ?_)
    obtain rfl : r_2 = (-1) := hw
    have hP : va_P (dC, dI) vwCl [(p0, .inr (7, oM p2 i7 j7)), ((p2 48), .inl (cI, 6, .inl (upd (fun _ => 0) 5 1)))] H := hP
    have hD : va_D A [(p0, .inr (7, oM p2 i7 j7)), ((p2 48), .inl (cI, 6, .inl (upd (fun _ => 0) 5 1)))] := hD
    refine lv_if_lt (tgt := 16) hx hb dX7_seed_9 (by decide) (fun _ => ?_) (fun q9 => absurd q9 (by decide +kernel))
    refine lv_iconst (v := 0) hx hb dX7_seed_16 (by decide +kernel) ?_
    exact k_ri B hP hD hS dX7_seed_17 () [0, 1] rfl rfl rfl (Nat.le_of_ble_eq_true rfl) (Nat.le_of_ble_eq_true rfl) rfl
set_option maxHeartbeats 4000000 in
set_option maxRecDepth 100000 in
theorem c_X6_kept_v0 (l : Launch) (dC : Nat → ClassId) (dI : Nat → Nat → Nat) (cI cJ cZ cM : ClassId) (p0 : Nat) (p1 : Int32) (p2 : Int32) (p3 : Nat → Nat)   : k_Mi l yX6_kept wsX6_kept ({ frames := 2, cells := 0, slots := 0, locals := 60 }) (dC, dI) vwCl (tyy cI cJ cZ cM) [(p0, .inr (6, [.ref (p3 0), .int 0, .ref (p3 1), .ref (p3 14), .ref (p3 27), .ref (p3 28), .ref (p3 29), .ref (p3 30), .ref (p3 54), .null, .int 1, .int 1, .int 999, .ref (p3 61), .ref (p3 62), .ref (p3 63), .ref (p3 60)])), ((p3 30), .inr (1, [.ref (p3 31), .int 0, .ref (p3 32), .ref (p3 33), .int 0, .int 0]))] [.ref p0, .int p1, .int p2] 0 0 (fun (u9 : Unit) => [(p0, .inr (6, [.ref (p3 0), .int 0, .ref (p3 1), .ref (p3 14), .ref (p3 27), .ref (p3 28), .ref (p3 29), .ref (p3 30), .ref (p3 54), .null, .int 1, .int 1, .int 999, .ref (p3 61), .ref (p3 62), .ref (p3 63), .ref (p3 60)])), ((p3 30), .inr (1, [.ref (p3 31), .int 0, .ref (p3 32), .ref (p3 33), .int 0, .int 0]))]) (fun (r9 : Int32) (u9 : Unit) => r9 = (-1)) := by
  refine fun sz => k_enter (cc := cX6_kept) (maxL := 3) (ret := some (.int)) (Qc := fun A => va_Qi (fun (r9 : Int32) (u9 : Unit) => r9 = (-1)) (fun u => k_B (dC, dI) vwCl (tyy cI cJ cZ cM) A ((fun (u9 : Unit) => [(p0, .inr (6, [.ref (p3 0), .int 0, .ref (p3 1), .ref (p3 14), .ref (p3 27), .ref (p3 28), .ref (p3 29), .ref (p3 30), .ref (p3 54), .null, .int 1, .int 1, .int 999, .ref (p3 61), .ref (p3 62), .ref (p3 63), .ref (p3 60)])), ((p3 30), .inr (1, [.ref (p3 31), .int 0, .ref (p3 32), .ref (p3 33), .int 0, .int 0]))]) u)) A) sz (by decide +kernel) rfl (Nat.le_of_ble_eq_true rfl) (fun p e s m args below meth c A ls H locs B hP hD hS hl => ?_)
  obtain ⟨hx, hb, hml, hown, hts, hr, hlk, hnm, hK, hA, hN, hC⟩ := id B
  have hown : s.vm.findClass RX6 = some m.cls := hown
  have hl : lv_has ls 3 [(0, .ref p0), (1, .int p1), (2, .int p2)] := hl
  have w_0 : (Cond.fieldLink RX6 45 "WishSea" "past" "LWishSea$Past;").before args s = true := hts _ (List.mem_of_getElem? (i := 1) rfl)
  have hinX6 : ∀ w ∈ u_ws RX6 TX6 17, w ∈ wsX6_kept := fun _ h => List.mem_cons_of_mem _ (List.mem_append_left _ (List.mem_append_right _ h))
  refine lv_iload_n hx hb dX6_kept_0 rfl (lv_at hl 1 rfl) ?_
  refine lv_if_lt (tgt := 15) hx hb dX6_kept_1 (by decide) (fun c_1 => ?_) (fun c_1 => ?_)
  · have c_1 : p1.toInt < 0 := k_ltT rfl (by decide +kernel) c_1
    refine lv_iconst (v := (-1)) hx hb dX6_kept_15 (by decide +kernel) ?_
    exact k_ri B hP hD hS dX6_kept_16 () [0, 1] rfl rfl rfl (Nat.le_of_ble_eq_true rfl) (Nat.le_of_ble_eq_true rfl) rfl
  · have c_1 : 0 ≤ p1.toInt := k_ltF rfl (by decide +kernel) c_1
    refine lv_iload_n hx hb dX6_kept_4 rfl (lv_at hl 1 rfl) ?_
    refine lv_aload_n hx hb dX6_kept_5 rfl (lv_at hl 0 rfl) ?_
    refine k_get (D := (dC, dI)) (ci := 6) (v := .ref (p3 30)) (C := RX6) (T := TX6) (N := 17) hx hb hts hinX6 hown hK hP 0 rfl rfl 7 (by decide) w_0 rfl rfl dX6_kept_6 ?_
    refine k_ci (wc := [((p3 30), .inr (1, [.ref (p3 31), .int 0, .ref (p3 32), .ref (p3 33), .int 0, .int 0]))]) (wr := [(p0, .inr (6, [.ref (p3 0), .int 0, .ref (p3 1), .ref (p3 14), .ref (p3 27), .ref (p3 28), .ref (p3 29), .ref (p3 30), .ref (p3 54), .null, .int 1, .int 1, .int 999, .ref (p3 61), .ref (p3 62), .ref (p3 63), .ref (p3 60)]))]) (fun hPc hDc hFc => va_runV (As := []) (rest := [.int p1]) ⟨hx, hb, hml, hown, hts⟩ (c_X1_told_v0 l dC dI cI cJ cZ cM p3 H.size) (cwV 0 hts gX6_kept_X1_told rfl rfl rfl (by decide +kernel) ⟨(Nat.le_of_ble_eq_true rfl), (Nat.le_of_ble_eq_true rfl)⟩) (k_pV hPc hDc hK hN hC hS hFc hP (q0 := 1) (ci := 1) rfl rfl) rfl rfl hl.1 rfl (lv_room (Nat.le_of_ble_eq_true rfl)) dX6_kept_9 ⟨(Nat.le_of_ble_eq_true rfl), (Nat.le_of_ble_eq_true rfl)⟩) hP hD hS hA [1] [0] rfl rfl rfl rfl (by decide) (fun _ => rfl) 0 0 rfl rfl (fun r_2 u_3 H locs hw hP hD hS => ?_)
    obtain rfl : r_2 = 0 := hw
    have hP : va_P (dC, dI) vwCl [(p0, .inr (6, [.ref (p3 0), .int 0, .ref (p3 1), .ref (p3 14), .ref (p3 27), .ref (p3 28), .ref (p3 29), .ref (p3 30), .ref (p3 54), .null, .int 1, .int 1, .int 999, .ref (p3 61), .ref (p3 62), .ref (p3 63), .ref (p3 60)])), ((p3 30), .inr (1, [.ref (p3 31), .int 0, .ref (p3 32), .ref (p3 33), .int 0, .int 0]))] H := hP
    have hD : va_D A [(p0, .inr (6, [.ref (p3 0), .int 0, .ref (p3 1), .ref (p3 14), .ref (p3 27), .ref (p3 28), .ref (p3 29), .ref (p3 30), .ref (p3 54), .null, .int 1, .int 1, .int 999, .ref (p3 61), .ref (p3 62), .ref (p3 63), .ref (p3 60)])), ((p3 30), .inr (1, [.ref (p3 31), .int 0, .ref (p3 32), .ref (p3 33), .int 0, .int 0]))] := hD
    refine lv_icmp_lt (tgt := 17) hx hb dX6_kept_12 (by decide) (fun c_4 => ?_) (fun c_4 => ?_)
    · have c_4 : p1.toInt < 0 := k_ltT rfl (by decide +kernel) c_4
      exfalso; omega
    · have c_4 : 0 ≤ p1.toInt := k_ltF rfl (by decide +kernel) c_4
      refine lv_iconst (v := (-1)) hx hb dX6_kept_15 (by decide +kernel) ?_
      exact k_ri B hP hD hS dX6_kept_16 () [0, 1] rfl rfl rfl (Nat.le_of_ble_eq_true rfl) (Nat.le_of_ble_eq_true rfl) rfl
set_option maxHeartbeats 4000000 in
set_option maxRecDepth 100000 in
theorem c_X7_kept_v0 (l : Launch) (dC : Nat → ClassId) (dI : Nat → Nat → Nat) (cI cJ cZ cM : ClassId) (p0 : Nat) (p1 : Int32) (p2 : Int32) (p3 : Nat → Nat)   : k_Mi l yX7_kept wsX7_kept ({ frames := 2, cells := 0, slots := 0, locals := 62 }) (dC, dI) vwCl (tyy cI cJ cZ cM) [(p0, .inr (7, oM p3 i7 j7)), ((p3 53), .inl (cI, 22, .inl (fun _ => 0)))] [.ref p0, .int p1, .int p2] 0 0 (fun (u9 : Unit) => [(p0, .inr (7, oM p3 i7 j7)), ((p3 53), .inl (cI, 22, .inl (fun _ => 0)))]) (fun (r9 : Int32) (u9 : Unit) => r9 = (-1)) := by
  refine fun sz => k_enter (cc := cX7_kept) (maxL := 3) (ret := some (.int)) (Qc := fun A => va_Qi (fun (r9 : Int32) (u9 : Unit) => r9 = (-1)) (fun u => k_B (dC, dI) vwCl (tyy cI cJ cZ cM) A ((fun (u9 : Unit) => [(p0, .inr (7, oM p3 i7 j7)), ((p3 53), .inl (cI, 22, .inl (fun _ => 0)))]) u)) A) sz (by decide +kernel) rfl (Nat.le_of_ble_eq_true rfl) (fun p e s m args below meth c A ls H locs B hP hD hS hl => ?_)
  obtain ⟨hx, hb, hml, hown, hts, hr, hlk, hnm, hK, hA, hN, hC⟩ := id B
  have hown : s.vm.findClass RX7 = some m.cls := hown
  have hl : lv_has ls 3 [(0, .ref p0), (1, .int p1), (2, .int p2)] := hl
  have w_0 : (Cond.fieldLink RX7 174 "WishSeaModel" "keptMany" "[I").before args s = true := hts _ (List.mem_of_getElem? (i := 1) rfl)
  have hinX7 : ∀ w ∈ u_ws RX7 TX7 92, w ∈ wsX7_kept := fun _ h => List.mem_cons_of_mem _ (List.mem_append_right _ h)
  refine lv_iload_n hx hb dX7_kept_0 rfl (lv_at hl 1 rfl) ?_
  refine lv_iconst (v := 0) hx hb dX7_kept_1 (by decide +kernel) ?_
  refine lv_aload_n hx hb dX7_kept_2 rfl (lv_at hl 0 rfl) ?_
  refine k_get (D := (dC, dI)) (ci := 7) (v := .ref (p3 53)) (C := RX7) (T := TX7) (N := 92) hx hb hts hinX7 hown hK hP 0 rfl rfl 53 (by decide) w_0 rfl rfl dX7_kept_3 ?_
  refine lv_iconst (v := 0) hx hb dX7_kept_6 (by decide +kernel) ?_
  refine k_iald (v := 0) hx hb hK hP 1 0 0 rfl rfl rfl (Nat.le_of_ble_eq_true rfl) (Nat.le_of_ble_eq_true rfl) rfl dX7_kept_7 ?_
  refine lv_iconst (v := 1) hx hb dX7_kept_8 (by decide +kernel) ?_
  refine lv_isub hx hb dX7_kept_9 ?_
  refine k_int (v := (-1)) (by decide +kernel) ?_
  refine k_ci (wc := []) (wr := [(p0, .inr (7, oM p3 i7 j7)), ((p3 53), .inl (cI, 22, .inl (fun _ => 0)))]) (fun hPc hDc hFc => va_runS (As := [.int p1, .int 0, .int (-1)]) (rest := []) ⟨hx, hb, hml, hown, hts⟩ (c_X7_is_v1 l dC dI cI cJ cZ cM p1 H.size) (va_cwS 3 hts gX7_kept_X7_is rfl rfl rfl (by decide +kernel) ⟨(Nat.le_of_ble_eq_true rfl), (Nat.le_of_ble_eq_true rfl)⟩) (k_pS hPc hDc hK hN hC hS hFc) rfl rfl hl.1 rfl (lv_room (Nat.le_of_ble_eq_true rfl)) dX7_kept_10 ⟨(Nat.le_of_ble_eq_true rfl), (Nat.le_of_ble_eq_true rfl)⟩) hP hD hS hA [] [0, 1] rfl rfl rfl rfl (by decide) (fun _ => rfl) 0 0 rfl rfl (fun r_1 u_2 H locs hw hP hD hS => ?_)
  obtain rfl : r_1 = 0 := hw
  have hP : va_P (dC, dI) vwCl [(p0, .inr (7, oM p3 i7 j7)), ((p3 53), .inl (cI, 22, .inl (fun _ => 0)))] H := hP
  have hD : va_D A [(p0, .inr (7, oM p3 i7 j7)), ((p3 53), .inl (cI, 22, .inl (fun _ => 0)))] := hD
  refine lv_if_eq (tgt := 25) hx hb dX7_kept_13 (by decide) (fun _ => ?_) (fun q9 => absurd q9 (by decide +kernel))
  refine lv_iconst (v := (-1)) hx hb dX7_kept_25 (by decide +kernel) ?_
  exact k_ri B hP hD hS dX7_kept_26 () [0, 1] rfl rfl rfl (Nat.le_of_ble_eq_true rfl) (Nat.le_of_ble_eq_true rfl) rfl
set_option maxHeartbeats 4000000 in
set_option maxRecDepth 100000 in
theorem c_X6_namesWishes_v0 (l : Launch) (dC : Nat → ClassId) (dI : Nat → Nat → Nat) (cI cJ cZ cM : ClassId) (p0 : Nat)   : k_Mi l yX6_namesWishes wsX6_namesWishes ({ frames := 1, cells := 0, slots := 0, locals := 40 }) (dC, dI) vwCl (tyy cI cJ cZ cM) [] [.ref p0, .int 0, .int 255] 0 0 (fun (u9 : Unit) => []) (fun (r9 : Int32) (u9 : Unit) => r9 = 1) := by
  refine fun sz => k_enter (cc := cX6_namesWishes) (maxL := 4) (ret := some (.boolean)) (Qc := fun A => va_Qi (fun (r9 : Int32) (u9 : Unit) => r9 = 1) (fun u => k_B (dC, dI) vwCl (tyy cI cJ cZ cM) A ((fun (u9 : Unit) => []) u)) A) sz (by decide +kernel) rfl (Nat.le_of_ble_eq_true rfl) (fun p e s m args below meth c A ls H locs B hP hD hS hl => ?_)
  obtain ⟨hx, hb, hml, hown, hts, hr, hlk, hnm, hK, hA, hN, hC⟩ := id B
  have hown : s.vm.findClass RX6 = some m.cls := hown
  have hl : lv_has ls 4 [(0, .ref p0), (1, .int 0), (2, .int 255)] := hl
  refine lv_iconst (v := 0) hx hb dX6_namesWishes_0 (by decide +kernel) ?_
  refine lv_istore_n (lv' := [(3, .int 0), (0, .ref p0), (1, .int 0), (2, .int 255)]) hx hb dX6_namesWishes_1 rfl hl (by decide) rfl (fun ls hl => ?_)
  refine lv_iload_n hx hb dX6_namesWishes_2 rfl (lv_at hl 0 rfl) ?_
  refine lv_iload_n hx hb dX6_namesWishes_3 rfl (lv_at hl 2 rfl) ?_
  refine lv_icmp_ge (tgt := 47) hx hb dX6_namesWishes_4 (by decide) (fun _ => ?_) (fun q9 => absurd q9 (by decide +kernel))
  refine lv_iconst (v := 1) hx hb dX6_namesWishes_47 (by decide +kernel) ?_
  exact k_ri B hP hD hS dX6_namesWishes_48 () [] rfl rfl rfl (Nat.le_of_ble_eq_true rfl) (Nat.le_of_ble_eq_true rfl) rfl
set_option maxHeartbeats 4000000 in
set_option maxRecDepth 100000 in
theorem c_X0_put_v4 (l : Launch) (dC : Nat → ClassId) (dI : Nat → Nat → Nat) (cI cJ cZ cM : ClassId) (p0 : Nat → Nat)   : k_Mv l yX0_put wsX0_put ({ frames := 1, cells := 0, slots := 0, locals := 40 }) (dC, dI) vwCl (tyy cI cJ cZ cM) [((p0 29), .inr (0, [.int 0, .int 0, .int 0, .int 0]))] [.ref (p0 29), .int 0, .int 0, .int 0, .int 0] 0 0 (fun (u9 : Unit) => [((p0 29), .inr (0, [.int 0, .int 0, .int 0, .int 0]))]) (fun (u9 : Unit) => True) := by
  refine fun sz => k_enter (cc := cX0_put) (maxL := 5) (ret := none) (Qc := fun A => va_Qv (fun (u9 : Unit) => True) (fun u => k_B (dC, dI) vwCl (tyy cI cJ cZ cM) A ((fun (u9 : Unit) => [((p0 29), .inr (0, [.int 0, .int 0, .int 0, .int 0]))]) u)) A) sz (by decide +kernel) rfl (Nat.le_of_ble_eq_true rfl) (fun p e s m args below meth c A ls H locs B hP hD hS hl => ?_)
  obtain ⟨hx, hb, hml, hown, hts, hr, hlk, hnm, hK, hA, hN, hC⟩ := id B
  have hown : s.vm.findClass RX0 = some m.cls := hown
  have hl : lv_has ls 5 [(0, .ref (p0 29)), (1, .int 0), (2, .int 0), (3, .int 0), (4, .int 0)] := hl
  have w_0 : (Cond.fieldLink RX0 7 "WishSea$Moment" "things" "I").before args s = true := hts _ (List.mem_of_getElem? (i := 1) rfl)
  have w_1 : (Cond.fieldLink RX0 13 "WishSea$Moment" "sea" "I").before args s = true := hts _ (List.mem_of_getElem? (i := 2) rfl)
  have w_2 : (Cond.fieldLink RX0 16 "WishSea$Moment" "said" "I").before args s = true := hts _ (List.mem_of_getElem? (i := 3) rfl)
  have w_3 : (Cond.fieldLink RX0 19 "WishSea$Moment" "day" "I").before args s = true := hts _ (List.mem_of_getElem? (i := 4) rfl)
  have hinX0 : ∀ w ∈ u_ws RX0 TX0 4, w ∈ wsX0_put := fun _ h => List.mem_cons_of_mem _ (List.mem_append_right _ h)
  refine lv_aload_n hx hb dX0_put_0 rfl (lv_at hl 0 rfl) ?_
  refine lv_iload_n hx hb dX0_put_1 rfl (lv_at hl 1 rfl) ?_
  refine k_put (D := (dC, dI)) (ci := 0) (v := .int 0) (C := RX0) (T := TX0) (N := 4) (ws' := [((p0 29), .inr (0, [.int 0, .int 0, .int 0, .int 0]))]) hx hb hts hinX0 tyX0 tyX0_ok nmX0 hown hK hP hD hS 0 rfl rfl 0 (by decide) w_0 rfl rfl rfl rfl (Nat.le_of_ble_eq_true rfl) rfl dX0_put_2 (fun H locs hP hD hS => ?_)
  refine lv_aload_n hx hb dX0_put_5 rfl (lv_at hl 0 rfl) ?_
  refine lv_iload_n hx hb dX0_put_6 rfl (lv_at hl 2 rfl) ?_
  refine k_put (D := (dC, dI)) (ci := 0) (v := .int 0) (C := RX0) (T := TX0) (N := 4) (ws' := [((p0 29), .inr (0, [.int 0, .int 0, .int 0, .int 0]))]) hx hb hts hinX0 tyX0 tyX0_ok nmX0 hown hK hP hD hS 0 rfl rfl 1 (by decide) w_1 rfl rfl rfl rfl (Nat.le_of_ble_eq_true rfl) rfl dX0_put_7 (fun H locs hP hD hS => ?_)
  refine lv_aload_n hx hb dX0_put_10 rfl (lv_at hl 0 rfl) ?_
  refine lv_iload_n hx hb dX0_put_11 rfl (lv_at hl 3 rfl) ?_
  refine k_put (D := (dC, dI)) (ci := 0) (v := .int 0) (C := RX0) (T := TX0) (N := 4) (ws' := [((p0 29), .inr (0, [.int 0, .int 0, .int 0, .int 0]))]) hx hb hts hinX0 tyX0 tyX0_ok nmX0 hown hK hP hD hS 0 rfl rfl 2 (by decide) w_2 rfl rfl rfl rfl (Nat.le_of_ble_eq_true rfl) rfl dX0_put_12 (fun H locs hP hD hS => ?_)
  refine lv_aload_n hx hb dX0_put_15 rfl (lv_at hl 0 rfl) ?_
  refine lv_iload hx hb dX0_put_16 (lv_at hl 4 rfl) ?_
  refine k_put (D := (dC, dI)) (ci := 0) (v := .int 0) (C := RX0) (T := TX0) (N := 4) (ws' := [((p0 29), .inr (0, [.int 0, .int 0, .int 0, .int 0]))]) hx hb hts hinX0 tyX0 tyX0_ok nmX0 hown hK hP hD hS 0 rfl rfl 3 (by decide) w_3 rfl rfl rfl rfl (Nat.le_of_ble_eq_true rfl) rfl dX0_put_18 (fun H locs hP hD hS => ?_)
  exact k_rv B hP hD hS dX0_put_21 () [0] rfl rfl (Nat.le_of_ble_eq_true rfl) (Nat.le_of_ble_eq_true rfl) trivial
set_option maxHeartbeats 4000000 in
set_option maxRecDepth 100000 in
theorem c_X0_take_v1 (l : Launch) (dC : Nat → ClassId) (dI : Nat → Nat → Nat) (cI cJ cZ cM : ClassId) (p0 : Nat → Nat)   : k_Mv l yX0_take wsX0_take ({ frames := 2, cells := 0, slots := 0, locals := 64 }) (dC, dI) vwCl (tyy cI cJ cZ cM) [((p0 28), .inr (0, [.int 0, .int 0, .int 0, .int 0])), ((p0 29), .inr (0, [.int 0, .int 0, .int 0, .int 0]))] [.ref (p0 29), .ref (p0 28)] 0 0 (fun (u9 : Unit) => [((p0 28), .inr (0, [.int 0, .int 0, .int 0, .int 0])), ((p0 29), .inr (0, [.int 0, .int 0, .int 0, .int 0]))]) (fun (u9 : Unit) => True) := by
  refine fun sz => k_enter (cc := cX0_take) (maxL := 2) (ret := none) (Qc := fun A => va_Qv (fun (u9 : Unit) => True) (fun u => k_B (dC, dI) vwCl (tyy cI cJ cZ cM) A ((fun (u9 : Unit) => [((p0 28), .inr (0, [.int 0, .int 0, .int 0, .int 0])), ((p0 29), .inr (0, [.int 0, .int 0, .int 0, .int 0]))]) u)) A) sz (by decide +kernel) rfl (Nat.le_of_ble_eq_true rfl) (fun p e s m args below meth c A ls H locs B hP hD hS hl => ?_)
  obtain ⟨hx, hb, hml, hown, hts, hr, hlk, hnm, hK, hA, hN, hC⟩ := id B
  have hown : s.vm.findClass RX0 = some m.cls := hown
  have hl : lv_has ls 2 [(0, .ref (p0 29)), (1, .ref (p0 28))] := hl
  have w_0 : (Cond.fieldLink RX0 7 "WishSea$Moment" "things" "I").before args s = true := hts _ (List.mem_of_getElem? (i := 1) rfl)
  have w_1 : (Cond.fieldLink RX0 13 "WishSea$Moment" "sea" "I").before args s = true := hts _ (List.mem_of_getElem? (i := 2) rfl)
  have w_2 : (Cond.fieldLink RX0 16 "WishSea$Moment" "said" "I").before args s = true := hts _ (List.mem_of_getElem? (i := 3) rfl)
  have w_3 : (Cond.fieldLink RX0 19 "WishSea$Moment" "day" "I").before args s = true := hts _ (List.mem_of_getElem? (i := 4) rfl)
  have hinX0 : ∀ w ∈ u_ws RX0 TX0 4, w ∈ wsX0_take := fun _ h => List.mem_cons_of_mem _ (List.mem_append_right _ h)
  refine lv_aload_n hx hb dX0_take_0 rfl (lv_at hl 0 rfl) ?_
  refine lv_aload_n hx hb dX0_take_1 rfl (lv_at hl 1 rfl) ?_
  refine k_get (D := (dC, dI)) (ci := 0) (v := .int 0) (C := RX0) (T := TX0) (N := 4) hx hb hts hinX0 hown hK hP 0 rfl rfl 0 (by decide) w_0 rfl rfl dX0_take_2 ?_
  refine lv_aload_n hx hb dX0_take_5 rfl (lv_at hl 1 rfl) ?_
  refine k_get (D := (dC, dI)) (ci := 0) (v := .int 0) (C := RX0) (T := TX0) (N := 4) hx hb hts hinX0 hown hK hP 0 rfl rfl 1 (by decide) w_1 rfl rfl dX0_take_6 ?_
  refine lv_aload_n hx hb dX0_take_9 rfl (lv_at hl 1 rfl) ?_
  refine k_get (D := (dC, dI)) (ci := 0) (v := .int 0) (C := RX0) (T := TX0) (N := 4) hx hb hts hinX0 hown hK hP 0 rfl rfl 2 (by decide) w_2 rfl rfl dX0_take_10 ?_
  refine lv_aload_n hx hb dX0_take_13 rfl (lv_at hl 1 rfl) ?_
  refine k_get (D := (dC, dI)) (ci := 0) (v := .int 0) (C := RX0) (T := TX0) (N := 4) hx hb hts hinX0 hown hK hP 0 rfl rfl 3 (by decide) w_3 rfl rfl dX0_take_14 ?_
  refine k_cv (wc := [((p0 29), .inr (0, [.int 0, .int 0, .int 0, .int 0]))]) (wr := [((p0 28), .inr (0, [.int 0, .int 0, .int 0, .int 0]))]) (fun hPc hDc hFc => va_runV (As := [.int 0, .int 0, .int 0, .int 0]) (rest := []) ⟨hx, hb, hml, hown, hts⟩ (c_X0_put_v4 l dC dI cI cJ cZ cM p0 H.size) (cwV 4 hts gX0_take_X0_put rfl rfl rfl (by decide +kernel) ⟨(Nat.le_of_ble_eq_true rfl), (Nat.le_of_ble_eq_true rfl)⟩) (k_pV hPc hDc hK hN hC hS hFc hP (q0 := 1) (ci := 0) rfl rfl) rfl rfl hl.1 rfl (lv_room (Nat.le_of_ble_eq_true rfl)) dX0_take_17 ⟨(Nat.le_of_ble_eq_true rfl), (Nat.le_of_ble_eq_true rfl)⟩) hP hD hS hA [1] [0] rfl rfl rfl rfl (by decide) (fun _ => rfl) 0 0 rfl rfl (fun u_2 H locs hw hP hD hS => ?_)
  have hP : va_P (dC, dI) vwCl [((p0 28), .inr (0, [.int 0, .int 0, .int 0, .int 0])), ((p0 29), .inr (0, [.int 0, .int 0, .int 0, .int 0]))] H := hP
  have hD : va_D A [((p0 28), .inr (0, [.int 0, .int 0, .int 0, .int 0])), ((p0 29), .inr (0, [.int 0, .int 0, .int 0, .int 0]))] := hD
  exact k_rv B hP hD hS dX0_take_20 () [0, 1] rfl rfl (Nat.le_of_ble_eq_true rfl) (Nat.le_of_ble_eq_true rfl) trivial
set_option maxHeartbeats 4000000 in
set_option maxRecDepth 100000 in
theorem c_X6_row_v0 (l : Launch) (dC : Nat → ClassId) (dI : Nat → Nat → Nat) (cI cJ cZ cM : ClassId) (p0 : Nat) (p1 : Nat → Nat)   : k_Mi l yX6_row wsX6_row ({ frames := 3, cells := 0, slots := 0, locals := 85 }) (dC, dI) vwCl (tyy cI cJ cZ cM) [(p0, .inr (6, [.ref (p1 0), .int 0, .ref (p1 1), .ref (p1 14), .ref (p1 27), .ref (p1 28), .ref (p1 29), .ref (p1 30), .ref (p1 54), .null, .int 1, .int 1, .int 999, .ref (p1 61), .ref (p1 62), .ref (p1 63), .ref (p1 60)])), ((p1 28), .inr (0, [.int 0, .int 0, .int 0, .int 0])), ((p1 29), .inr (0, [.int 0, .int 0, .int 0, .int 0])), ((p1 61), .inl (cI, 5, .inl (fun _ => (-1))))] [.ref p0] 0 0 (fun (u9 : Unit) => [(p0, .inr (6, [.ref (p1 0), .int 0, .ref (p1 1), .ref (p1 14), .ref (p1 27), .ref (p1 28), .ref (p1 29), .ref (p1 30), .ref (p1 54), .null, .int 1, .int 1, .int 999, .ref (p1 61), .ref (p1 62), .ref (p1 63), .ref (p1 60)])), ((p1 28), .inr (0, [.int 0, .int 0, .int 0, .int 0])), ((p1 29), .inr (0, [.int 0, .int 0, .int 0, .int 0])), ((p1 61), .inl (cI, 5, .inl (upd (upd (upd (upd (upd (fun _ => (-1)) 0 0) 1 0) 2 0) 3 0) 4 0)))]) (fun (r9 : Int32) (u9 : Unit) => r9 = 0) := by
  refine fun sz => k_enter (cc := cX6_row) (maxL := 5) (ret := some (.int)) (Qc := fun A => va_Qi (fun (r9 : Int32) (u9 : Unit) => r9 = 0) (fun u => k_B (dC, dI) vwCl (tyy cI cJ cZ cM) A ((fun (u9 : Unit) => [(p0, .inr (6, [.ref (p1 0), .int 0, .ref (p1 1), .ref (p1 14), .ref (p1 27), .ref (p1 28), .ref (p1 29), .ref (p1 30), .ref (p1 54), .null, .int 1, .int 1, .int 999, .ref (p1 61), .ref (p1 62), .ref (p1 63), .ref (p1 60)])), ((p1 28), .inr (0, [.int 0, .int 0, .int 0, .int 0])), ((p1 29), .inr (0, [.int 0, .int 0, .int 0, .int 0])), ((p1 61), .inl (cI, 5, .inl (upd (upd (upd (upd (upd (fun _ => (-1)) 0 0) 1 0) 2 0) 3 0) 4 0)))]) u)) A) sz (by decide +kernel) rfl (Nat.le_of_ble_eq_true rfl) (fun p e s m args below meth c A ls H locs B hP hD hS hl => ?_)
  obtain ⟨hx, hb, hml, hown, hts, hr, hlk, hnm, hK, hA, hN, hC⟩ := id B
  have hown : s.vm.findClass RX6 = some m.cls := hown
  have hl : lv_has ls 5 [(0, .ref p0)] := hl
  have w_0 : (Cond.fieldLink RX6 39 "WishSea" "trial" "LWishSea$Moment;").before args s = true := hts _ (List.mem_of_getElem? (i := 1) rfl)
  have w_1 : (Cond.fieldLink RX6 35 "WishSea" "now" "LWishSea$Moment;").before args s = true := hts _ (List.mem_of_getElem? (i := 2) rfl)
  have w_2 : (Cond.fieldLink RX6 140 "WishSea$Moment" "sea" "I").before args s = true := hts _ (List.mem_of_getElem? (i := 3) rfl)
  have w_3 : (Cond.fieldLink RX6 68 "WishSea" "gone" "[I").before args s = true := hts _ (List.mem_of_getElem? (i := 9) rfl)
  have w_4 : (Cond.fieldLink RX6 136 "WishSea$Moment" "things" "I").before args s = true := hts _ (List.mem_of_getElem? (i := 10) rfl)
  have w_5 : (Cond.fieldLink RX6 146 "WishSea$Moment" "day" "I").before args s = true := hts _ (List.mem_of_getElem? (i := 11) rfl)
  have hinX6 : ∀ w ∈ u_ws RX6 TX6 17, w ∈ wsX6_row := fun _ h => List.mem_cons_of_mem _ (List.mem_append_left _ (List.mem_append_left _ (List.mem_append_right _ h)))
  have hinX0 : ∀ w ∈ u_ws RX0 TX0 4, w ∈ wsX6_row := fun _ h => List.mem_cons_of_mem _ (List.mem_append_left _ (List.mem_append_right _ h))
  refine lv_aload_n hx hb dX6_row_0 rfl (lv_at hl 0 rfl) ?_
  refine k_ci (wc := [(p0, .inr (6, [.ref (p1 0), .int 0, .ref (p1 1), .ref (p1 14), .ref (p1 27), .ref (p1 28), .ref (p1 29), .ref (p1 30), .ref (p1 54), .null, .int 1, .int 1, .int 999, .ref (p1 61), .ref (p1 62), .ref (p1 63), .ref (p1 60)]))]) (wr := [((p1 28), .inr (0, [.int 0, .int 0, .int 0, .int 0])), ((p1 29), .inr (0, [.int 0, .int 0, .int 0, .int 0])), ((p1 61), .inl (cI, 5, .inl (fun _ => (-1))))]) (fun hPc hDc hFc => va_runV (As := []) (rest := []) ⟨hx, hb, hml, hown, hts⟩ (c_X6_takeTape_v0 l dC dI cI cJ cZ cM p0 p1 H.size) (cwV 0 hts gX6_row_X6_takeTape rfl rfl rfl (by decide +kernel) ⟨(Nat.le_of_ble_eq_true rfl), (Nat.le_of_ble_eq_true rfl)⟩) (k_pV hPc hDc hK hN hC hS hFc hP (q0 := 0) (ci := 6) rfl rfl) rfl rfl hl.1 rfl (lv_room (Nat.le_of_ble_eq_true rfl)) dX6_row_1 ⟨(Nat.le_of_ble_eq_true rfl), (Nat.le_of_ble_eq_true rfl)⟩) hP hD hS hA [0] [1, 2, 3] rfl rfl rfl rfl (by decide) (fun _ => rfl) 0 0 rfl rfl (fun r_1 u_2 H locs hw hP hD hS => ?_)
  obtain rfl : r_1 = 0 := hw
  have hP : va_P (dC, dI) vwCl [((p1 28), .inr (0, [.int 0, .int 0, .int 0, .int 0])), ((p1 29), .inr (0, [.int 0, .int 0, .int 0, .int 0])), ((p1 61), .inl (cI, 5, .inl (fun _ => (-1)))), (p0, .inr (6, [.ref (p1 0), .int 0, .ref (p1 1), .ref (p1 14), .ref (p1 27), .ref (p1 28), .ref (p1 29), .ref (p1 30), .ref (p1 54), .null, .int 1, .int 1, .int 999, .ref (p1 61), .ref (p1 62), .ref (p1 63), .ref (p1 60)]))] H := hP
  have hD : va_D A [((p1 28), .inr (0, [.int 0, .int 0, .int 0, .int 0])), ((p1 29), .inr (0, [.int 0, .int 0, .int 0, .int 0])), ((p1 61), .inl (cI, 5, .inl (fun _ => (-1)))), (p0, .inr (6, [.ref (p1 0), .int 0, .ref (p1 1), .ref (p1 14), .ref (p1 27), .ref (p1 28), .ref (p1 29), .ref (p1 30), .ref (p1 54), .null, .int 1, .int 1, .int 999, .ref (p1 61), .ref (p1 62), .ref (p1 63), .ref (p1 60)]))] := hD
  refine lv_istore_n (lv' := [(1, .int 0), (0, .ref p0)]) hx hb dX6_row_4 rfl hl (by decide) rfl (fun ls hl => ?_)
  refine lv_iload_n hx hb dX6_row_5 rfl (lv_at hl 0 rfl) ?_
  refine lv_bipush (v := 40) hx hb dX6_row_6 (by decide +kernel) ?_
  refine lv_icmp_gt (tgt := 22) hx hb dX6_row_8 (by decide) (fun q9 => absurd q9 (by decide +kernel)) (fun _ => ?_)
  refine lv_aload_n hx hb dX6_row_11 rfl (lv_at hl 1 rfl) ?_
  refine lv_iload_n hx hb dX6_row_12 rfl (lv_at hl 0 rfl) ?_
  refine lv_sipush (v := 255) hx hb dX6_row_13 (by decide +kernel) ?_
  refine k_ci (wc := []) (wr := [((p1 28), .inr (0, [.int 0, .int 0, .int 0, .int 0])), ((p1 29), .inr (0, [.int 0, .int 0, .int 0, .int 0])), ((p1 61), .inl (cI, 5, .inl (fun _ => (-1)))), (p0, .inr (6, [.ref (p1 0), .int 0, .ref (p1 1), .ref (p1 14), .ref (p1 27), .ref (p1 28), .ref (p1 29), .ref (p1 30), .ref (p1 54), .null, .int 1, .int 1, .int 999, .ref (p1 61), .ref (p1 62), .ref (p1 63), .ref (p1 60)]))]) (fun hPc hDc hFc => va_runV (As := [.int 0, .int 255]) (rest := []) ⟨hx, hb, hml, hown, hts⟩ (c_X6_namesWishes_v0 l dC dI cI cJ cZ cM p0 H.size) (cwV 2 hts gX6_row_X6_namesWishes rfl rfl rfl (by decide +kernel) ⟨(Nat.le_of_ble_eq_true rfl), (Nat.le_of_ble_eq_true rfl)⟩) (k_pV hPc hDc hK hN hC hS hFc hP (q0 := 3) (ci := 6) rfl rfl) rfl rfl hl.1 rfl (lv_room (Nat.le_of_ble_eq_true rfl)) dX6_row_16 ⟨(Nat.le_of_ble_eq_true rfl), (Nat.le_of_ble_eq_true rfl)⟩) hP hD hS hA [] [0, 1, 2, 3] rfl rfl rfl rfl (by decide) (fun _ => rfl) 0 0 rfl rfl (fun r_3 u_4 H locs hw hP hD hS => ?_)
  obtain rfl : r_3 = 1 := hw
  have hP : va_P (dC, dI) vwCl [((p1 28), .inr (0, [.int 0, .int 0, .int 0, .int 0])), ((p1 29), .inr (0, [.int 0, .int 0, .int 0, .int 0])), ((p1 61), .inl (cI, 5, .inl (fun _ => (-1)))), (p0, .inr (6, [.ref (p1 0), .int 0, .ref (p1 1), .ref (p1 14), .ref (p1 27), .ref (p1 28), .ref (p1 29), .ref (p1 30), .ref (p1 54), .null, .int 1, .int 1, .int 999, .ref (p1 61), .ref (p1 62), .ref (p1 63), .ref (p1 60)]))] H := hP
  have hD : va_D A [((p1 28), .inr (0, [.int 0, .int 0, .int 0, .int 0])), ((p1 29), .inr (0, [.int 0, .int 0, .int 0, .int 0])), ((p1 61), .inl (cI, 5, .inl (fun _ => (-1)))), (p0, .inr (6, [.ref (p1 0), .int 0, .ref (p1 1), .ref (p1 14), .ref (p1 27), .ref (p1 28), .ref (p1 29), .ref (p1 30), .ref (p1 54), .null, .int 1, .int 1, .int 999, .ref (p1 61), .ref (p1 62), .ref (p1 63), .ref (p1 60)]))] := hD
  refine lv_if_ne (tgt := 28) hx hb dX6_row_19 (by decide) (fun _ => ?_) (fun q9 => absurd q9 (by decide +kernel))
  refine lv_aload_n hx hb dX6_row_28 rfl (lv_at hl 1 rfl) ?_
  refine k_get (D := (dC, dI)) (ci := 6) (v := .ref (p1 29)) (C := RX6) (T := TX6) (N := 17) hx hb hts hinX6 hown hK hP 3 rfl rfl 6 (by decide) w_0 rfl rfl dX6_row_29 ?_
  refine lv_aload_n hx hb dX6_row_32 rfl (lv_at hl 1 rfl) ?_
  refine k_get (D := (dC, dI)) (ci := 6) (v := .ref (p1 28)) (C := RX6) (T := TX6) (N := 17) hx hb hts hinX6 hown hK hP 3 rfl rfl 5 (by decide) w_1 rfl rfl dX6_row_33 ?_
  refine k_cv (wc := [((p1 28), .inr (0, [.int 0, .int 0, .int 0, .int 0])), ((p1 29), .inr (0, [.int 0, .int 0, .int 0, .int 0]))]) (wr := [((p1 61), .inl (cI, 5, .inl (fun _ => (-1)))), (p0, .inr (6, [.ref (p1 0), .int 0, .ref (p1 1), .ref (p1 14), .ref (p1 27), .ref (p1 28), .ref (p1 29), .ref (p1 30), .ref (p1 54), .null, .int 1, .int 1, .int 999, .ref (p1 61), .ref (p1 62), .ref (p1 63), .ref (p1 60)]))]) (fun hPc hDc hFc => va_runV (As := [.ref (p1 28)]) (rest := []) ⟨hx, hb, hml, hown, hts⟩ (c_X0_take_v1 l dC dI cI cJ cZ cM p1 H.size) (cwV 1 hts gX6_row_X0_take rfl rfl rfl (by decide +kernel) ⟨(Nat.le_of_ble_eq_true rfl), (Nat.le_of_ble_eq_true rfl)⟩) (k_pV hPc hDc hK hN hC hS hFc hP (q0 := 1) (ci := 0) rfl rfl) rfl rfl hl.1 rfl (lv_room (Nat.le_of_ble_eq_true rfl)) dX6_row_36 ⟨(Nat.le_of_ble_eq_true rfl), (Nat.le_of_ble_eq_true rfl)⟩) hP hD hS hA [0, 1] [2, 3] rfl rfl rfl rfl (by decide) (fun _ => rfl) 0 0 rfl rfl (fun u_6 H locs hw hP hD hS => ?_)
  have hP : va_P (dC, dI) vwCl [((p1 61), .inl (cI, 5, .inl (fun _ => (-1)))), (p0, .inr (6, [.ref (p1 0), .int 0, .ref (p1 1), .ref (p1 14), .ref (p1 27), .ref (p1 28), .ref (p1 29), .ref (p1 30), .ref (p1 54), .null, .int 1, .int 1, .int 999, .ref (p1 61), .ref (p1 62), .ref (p1 63), .ref (p1 60)])), ((p1 28), .inr (0, [.int 0, .int 0, .int 0, .int 0])), ((p1 29), .inr (0, [.int 0, .int 0, .int 0, .int 0]))] H := hP
  have hD : va_D A [((p1 61), .inl (cI, 5, .inl (fun _ => (-1)))), (p0, .inr (6, [.ref (p1 0), .int 0, .ref (p1 1), .ref (p1 14), .ref (p1 27), .ref (p1 28), .ref (p1 29), .ref (p1 30), .ref (p1 54), .null, .int 1, .int 1, .int 999, .ref (p1 61), .ref (p1 62), .ref (p1 63), .ref (p1 60)])), ((p1 28), .inr (0, [.int 0, .int 0, .int 0, .int 0])), ((p1 29), .inr (0, [.int 0, .int 0, .int 0, .int 0]))] := hD
  refine lv_iconst (v := 0) hx hb dX6_row_39 (by decide +kernel) ?_
  refine lv_istore_n (lv' := [(2, .int 0), (1, .int 0), (0, .ref p0)]) hx hb dX6_row_40 rfl hl (by decide) rfl (fun ls hl => ?_)
  refine lv_aload_n hx hb dX6_row_41 rfl (lv_at hl 2 rfl) ?_
  refine k_get (D := (dC, dI)) (ci := 6) (v := .ref (p1 28)) (C := RX6) (T := TX6) (N := 17) hx hb hts hinX6 hown hK hP 1 rfl rfl 5 (by decide) w_1 rfl rfl dX6_row_42 ?_
  refine k_get (D := (dC, dI)) (ci := 0) (v := .int 0) (C := RX0) (T := TX0) (N := 4) hx hb hts hinX0 hown hK hP 2 rfl rfl 1 (by decide) w_2 rfl rfl dX6_row_45 ?_
  refine lv_istore_n (lv' := [(3, .int 0), (2, .int 0), (1, .int 0), (0, .ref p0)]) hx hb dX6_row_48 rfl hl (by decide) rfl (fun ls hl => ?_)
  refine lv_iconst (v := 0) hx hb dX6_row_49 (by decide +kernel) ?_
  refine lv_istore (lv' := [(4, .int 0), (3, .int 0), (2, .int 0), (1, .int 0), (0, .ref p0)]) hx hb dX6_row_50 hl (by decide) rfl (fun ls hl => ?_)
  refine lv_iload hx hb dX6_row_52 (lv_at hl 0 rfl) ?_
  refine lv_iload_n hx hb dX6_row_54 rfl (lv_at hl 3 rfl) ?_
  refine lv_icmp_ge (tgt := 96) hx hb dX6_row_55 (by decide) (fun _ => ?_) (fun q9 => absurd q9 (by decide +kernel))
  refine lv_aload_n hx hb dX6_row_96 rfl (lv_at hl 4 rfl) ?_
  refine k_get (D := (dC, dI)) (ci := 6) (v := .ref (p1 61)) (C := RX6) (T := TX6) (N := 17) hx hb hts hinX6 hown hK hP 1 rfl rfl 13 (by decide) w_3 rfl rfl dX6_row_97 ?_
  refine lv_iconst (v := 0) hx hb dX6_row_100 (by decide +kernel) ?_
  refine lv_iload_n hx hb dX6_row_101 rfl (lv_at hl 2 rfl) ?_
  refine k_iast (g := (upd (fun _ => (-1)) 0 0)) (ws' := [((p1 61), .inl (cI, 5, .inl (upd (fun _ => (-1)) 0 0))), (p0, .inr (6, [.ref (p1 0), .int 0, .ref (p1 1), .ref (p1 14), .ref (p1 27), .ref (p1 28), .ref (p1 29), .ref (p1 30), .ref (p1 54), .null, .int 1, .int 1, .int 999, .ref (p1 61), .ref (p1 62), .ref (p1 63), .ref (p1 60)])), ((p1 28), .inr (0, [.int 0, .int 0, .int 0, .int 0])), ((p1 29), .inr (0, [.int 0, .int 0, .int 0, .int 0]))]) hx hb hK hP hD hS 0 0 0 rfl rfl rfl (Nat.le_of_ble_eq_true rfl) (Nat.le_of_ble_eq_true rfl) rfl rfl dX6_row_102 (fun H locs hP hD hS => ?_)
  refine lv_aload_n hx hb dX6_row_103 rfl (lv_at hl 4 rfl) ?_
  refine k_get (D := (dC, dI)) (ci := 6) (v := .ref (p1 61)) (C := RX6) (T := TX6) (N := 17) hx hb hts hinX6 hown hK hP 1 rfl rfl 13 (by decide) w_3 rfl rfl dX6_row_104 ?_
  refine lv_iconst (v := 1) hx hb dX6_row_107 (by decide +kernel) ?_
  refine lv_aload_n hx hb dX6_row_108 rfl (lv_at hl 4 rfl) ?_
  refine k_get (D := (dC, dI)) (ci := 6) (v := .ref (p1 29)) (C := RX6) (T := TX6) (N := 17) hx hb hts hinX6 hown hK hP 1 rfl rfl 6 (by decide) w_0 rfl rfl dX6_row_109 ?_
  refine k_get (D := (dC, dI)) (ci := 0) (v := .int 0) (C := RX0) (T := TX0) (N := 4) hx hb hts hinX0 hown hK hP 3 rfl rfl 0 (by decide) w_4 rfl rfl dX6_row_112 ?_
  refine k_iast (g := (upd (upd (fun _ => (-1)) 0 0) 1 0)) (ws' := [((p1 61), .inl (cI, 5, .inl (upd (upd (fun _ => (-1)) 0 0) 1 0))), (p0, .inr (6, [.ref (p1 0), .int 0, .ref (p1 1), .ref (p1 14), .ref (p1 27), .ref (p1 28), .ref (p1 29), .ref (p1 30), .ref (p1 54), .null, .int 1, .int 1, .int 999, .ref (p1 61), .ref (p1 62), .ref (p1 63), .ref (p1 60)])), ((p1 28), .inr (0, [.int 0, .int 0, .int 0, .int 0])), ((p1 29), .inr (0, [.int 0, .int 0, .int 0, .int 0]))]) hx hb hK hP hD hS 0 0 1 rfl rfl rfl (Nat.le_of_ble_eq_true rfl) (Nat.le_of_ble_eq_true rfl) rfl rfl dX6_row_115 (fun H locs hP hD hS => ?_)
  refine lv_aload_n hx hb dX6_row_116 rfl (lv_at hl 4 rfl) ?_
  refine k_get (D := (dC, dI)) (ci := 6) (v := .ref (p1 61)) (C := RX6) (T := TX6) (N := 17) hx hb hts hinX6 hown hK hP 1 rfl rfl 13 (by decide) w_3 rfl rfl dX6_row_117 ?_
  refine lv_iconst (v := 2) hx hb dX6_row_120 (by decide +kernel) ?_
  refine lv_aload_n hx hb dX6_row_121 rfl (lv_at hl 4 rfl) ?_
  refine k_get (D := (dC, dI)) (ci := 6) (v := .ref (p1 29)) (C := RX6) (T := TX6) (N := 17) hx hb hts hinX6 hown hK hP 1 rfl rfl 6 (by decide) w_0 rfl rfl dX6_row_122 ?_
  refine k_get (D := (dC, dI)) (ci := 0) (v := .int 0) (C := RX0) (T := TX0) (N := 4) hx hb hts hinX0 hown hK hP 3 rfl rfl 1 (by decide) w_2 rfl rfl dX6_row_125 ?_
  refine k_iast (g := (upd (upd (upd (fun _ => (-1)) 0 0) 1 0) 2 0)) (ws' := [((p1 61), .inl (cI, 5, .inl (upd (upd (upd (fun _ => (-1)) 0 0) 1 0) 2 0))), (p0, .inr (6, [.ref (p1 0), .int 0, .ref (p1 1), .ref (p1 14), .ref (p1 27), .ref (p1 28), .ref (p1 29), .ref (p1 30), .ref (p1 54), .null, .int 1, .int 1, .int 999, .ref (p1 61), .ref (p1 62), .ref (p1 63), .ref (p1 60)])), ((p1 28), .inr (0, [.int 0, .int 0, .int 0, .int 0])), ((p1 29), .inr (0, [.int 0, .int 0, .int 0, .int 0]))]) hx hb hK hP hD hS 0 0 2 rfl rfl rfl (Nat.le_of_ble_eq_true rfl) (Nat.le_of_ble_eq_true rfl) rfl rfl dX6_row_128 (fun H locs hP hD hS => ?_)
  refine lv_aload_n hx hb dX6_row_129 rfl (lv_at hl 4 rfl) ?_
  refine k_get (D := (dC, dI)) (ci := 6) (v := .ref (p1 61)) (C := RX6) (T := TX6) (N := 17) hx hb hts hinX6 hown hK hP 1 rfl rfl 13 (by decide) w_3 rfl rfl dX6_row_130 ?_
  refine lv_iconst (v := 3) hx hb dX6_row_133 (by decide +kernel) ?_
  refine lv_aload_n hx hb dX6_row_134 rfl (lv_at hl 4 rfl) ?_
  refine k_get (D := (dC, dI)) (ci := 6) (v := .ref (p1 29)) (C := RX6) (T := TX6) (N := 17) hx hb hts hinX6 hown hK hP 1 rfl rfl 6 (by decide) w_0 rfl rfl dX6_row_135 ?_
  refine k_get (D := (dC, dI)) (ci := 0) (v := .int 0) (C := RX0) (T := TX0) (N := 4) hx hb hts hinX0 hown hK hP 3 rfl rfl 3 (by decide) w_5 rfl rfl dX6_row_138 ?_
  refine k_iast (g := (upd (upd (upd (upd (fun _ => (-1)) 0 0) 1 0) 2 0) 3 0)) (ws' := [((p1 61), .inl (cI, 5, .inl (upd (upd (upd (upd (fun _ => (-1)) 0 0) 1 0) 2 0) 3 0))), (p0, .inr (6, [.ref (p1 0), .int 0, .ref (p1 1), .ref (p1 14), .ref (p1 27), .ref (p1 28), .ref (p1 29), .ref (p1 30), .ref (p1 54), .null, .int 1, .int 1, .int 999, .ref (p1 61), .ref (p1 62), .ref (p1 63), .ref (p1 60)])), ((p1 28), .inr (0, [.int 0, .int 0, .int 0, .int 0])), ((p1 29), .inr (0, [.int 0, .int 0, .int 0, .int 0]))]) hx hb hK hP hD hS 0 0 3 rfl rfl rfl (Nat.le_of_ble_eq_true rfl) (Nat.le_of_ble_eq_true rfl) rfl rfl dX6_row_141 (fun H locs hP hD hS => ?_)
  refine lv_aload_n hx hb dX6_row_142 rfl (lv_at hl 4 rfl) ?_
  refine k_get (D := (dC, dI)) (ci := 6) (v := .ref (p1 61)) (C := RX6) (T := TX6) (N := 17) hx hb hts hinX6 hown hK hP 1 rfl rfl 13 (by decide) w_3 rfl rfl dX6_row_143 ?_
  refine lv_iconst (v := 4) hx hb dX6_row_146 (by decide +kernel) ?_
  refine lv_iload_n hx hb dX6_row_147 rfl (lv_at hl 1 rfl) ?_
  refine k_iast (g := (upd (upd (upd (upd (upd (fun _ => (-1)) 0 0) 1 0) 2 0) 3 0) 4 0)) (ws' := [((p1 61), .inl (cI, 5, .inl (upd (upd (upd (upd (upd (fun _ => (-1)) 0 0) 1 0) 2 0) 3 0) 4 0))), (p0, .inr (6, [.ref (p1 0), .int 0, .ref (p1 1), .ref (p1 14), .ref (p1 27), .ref (p1 28), .ref (p1 29), .ref (p1 30), .ref (p1 54), .null, .int 1, .int 1, .int 999, .ref (p1 61), .ref (p1 62), .ref (p1 63), .ref (p1 60)])), ((p1 28), .inr (0, [.int 0, .int 0, .int 0, .int 0])), ((p1 29), .inr (0, [.int 0, .int 0, .int 0, .int 0]))]) hx hb hK hP hD hS 0 0 4 rfl rfl rfl (Nat.le_of_ble_eq_true rfl) (Nat.le_of_ble_eq_true rfl) rfl rfl dX6_row_148 (fun H locs hP hD hS => ?_)
  refine lv_iload hx hb dX6_row_149 (lv_at hl 0 rfl) ?_
  exact k_ri B hP hD hS dX6_row_151 () [1, 2, 3, 0] rfl rfl rfl (Nat.le_of_ble_eq_true rfl) (Nat.le_of_ble_eq_true rfl) rfl
set_option maxHeartbeats 4000000 in
set_option maxRecDepth 100000 in
theorem c_X7_areWishes_v0 (l : Launch) (dC : Nat → ClassId) (dI : Nat → Nat → Nat) (cI cJ cZ cM : ClassId) (p0 : Nat)   : k_Mi l yX7_areWishes wsX7_areWishes ({ frames := 1, cells := 0, slots := 0, locals := 40 }) (dC, dI) vwCl (tyy cI cJ cZ cM) [] [.ref p0, .int 0, .int 1] 0 0 (fun (u9 : Unit) => []) (fun (r9 : Int32) (u9 : Unit) => r9 = 1) := by
  refine fun sz => k_enter (cc := cX7_areWishes) (maxL := 4) (ret := some (.boolean)) (Qc := fun A => va_Qi (fun (r9 : Int32) (u9 : Unit) => r9 = 1) (fun u => k_B (dC, dI) vwCl (tyy cI cJ cZ cM) A ((fun (u9 : Unit) => []) u)) A) sz (by decide +kernel) rfl (Nat.le_of_ble_eq_true rfl) (fun p e s m args below meth c A ls H locs B hP hD hS hl => ?_)
  obtain ⟨hx, hb, hml, hown, hts, hr, hlk, hnm, hK, hA, hN, hC⟩ := id B
  have hown : s.vm.findClass RX7 = some m.cls := hown
  have hl : lv_has ls 4 [(0, .ref p0), (1, .int 0), (2, .int 1)] := hl
  refine lv_iconst (v := 0) hx hb dX7_areWishes_0 (by decide +kernel) ?_
  refine lv_istore_n (lv' := [(3, .int 0), (0, .ref p0), (1, .int 0), (2, .int 1)]) hx hb dX7_areWishes_1 rfl hl (by decide) rfl (fun ls hl => ?_)
  refine lv_iload_n hx hb dX7_areWishes_2 rfl (lv_at hl 0 rfl) ?_
  refine lv_iload_n hx hb dX7_areWishes_3 rfl (lv_at hl 2 rfl) ?_
  refine lv_icmp_ge (tgt := 44) hx hb dX7_areWishes_4 (by decide) (fun _ => ?_) (fun q9 => absurd q9 (by decide +kernel))
  refine lv_iconst (v := 1) hx hb dX7_areWishes_44 (by decide +kernel) ?_
  exact k_ri B hP hD hS dX7_areWishes_45 () [] rfl rfl rfl (Nat.le_of_ble_eq_true rfl) (Nat.le_of_ble_eq_true rfl) rfl
set_option maxHeartbeats 4000000 in
set_option maxRecDepth 100000 in
theorem c_X7_copies_v1 (l : Launch) (dC : Nat → ClassId) (dI : Nat → Nat → Nat) (cI cJ cZ cM : ClassId) (p0 : Nat) (p1 : Nat → Nat)   : k_Mv l yX7_copies wsX7_copies ({ frames := 1, cells := 0, slots := 0, locals := 40 }) (dC, dI) vwCl (tyy cI cJ cZ cM) [(p0, .inr (7, oM p1 (upd i7 1 0) j7)), ((p1 49), .inl (cI, 22, .inl (fun _ => 0))), ((p1 50), .inl (cI, 22, .inl (fun _ => 0))), ((p1 51), .inl (cI, 22, .inl (fun _ => 0))), ((p1 52), .inl (cI, 22, .inl (fun _ => 0))), ((p1 53), .inl (cI, 22, .inl (fun _ => 0)))] [.ref p0, .int 1, .int 0] 0 0 (fun (u9 : Unit) => [(p0, .inr (7, oM p1 (upd i7 1 0) j7)), ((p1 49), .inl (cI, 22, .inl (upd (fun _ => 0) 1 0))), ((p1 50), .inl (cI, 22, .inl (upd (fun _ => 0) 1 0))), ((p1 51), .inl (cI, 22, .inl (upd (fun _ => 0) 1 0))), ((p1 52), .inl (cI, 22, .inl (upd (fun _ => 0) 1 0))), ((p1 53), .inl (cI, 22, .inl (upd (fun _ => 0) 1 0)))]) (fun (u9 : Unit) => True) := by
  refine fun sz => k_enter (cc := cX7_copies) (maxL := 4) (ret := none) (Qc := fun A => va_Qv (fun (u9 : Unit) => True) (fun u => k_B (dC, dI) vwCl (tyy cI cJ cZ cM) A ((fun (u9 : Unit) => [(p0, .inr (7, oM p1 (upd i7 1 0) j7)), ((p1 49), .inl (cI, 22, .inl (upd (fun _ => 0) 1 0))), ((p1 50), .inl (cI, 22, .inl (upd (fun _ => 0) 1 0))), ((p1 51), .inl (cI, 22, .inl (upd (fun _ => 0) 1 0))), ((p1 52), .inl (cI, 22, .inl (upd (fun _ => 0) 1 0))), ((p1 53), .inl (cI, 22, .inl (upd (fun _ => 0) 1 0)))]) u)) A) sz (by decide +kernel) rfl (Nat.le_of_ble_eq_true rfl) (fun p e s m args below meth c A ls H locs B hP hD hS hl => ?_)
  obtain ⟨hx, hb, hml, hown, hts, hr, hlk, hnm, hK, hA, hN, hC⟩ := id B
  have hown : s.vm.findClass RX7 = some m.cls := hown
  have hl : lv_has ls 4 [(0, .ref p0), (1, .int 1), (2, .int 0)] := hl
  have w_0 : (Cond.fieldLink RX7 162 "WishSeaModel" "hadOf" "[I").before args s = true := hts _ (List.mem_of_getElem? (i := 1) rfl)
  have w_1 : (Cond.fieldLink RX7 165 "WishSeaModel" "seaOf" "[I").before args s = true := hts _ (List.mem_of_getElem? (i := 2) rfl)
  have w_2 : (Cond.fieldLink RX7 168 "WishSeaModel" "saidOf" "[I").before args s = true := hts _ (List.mem_of_getElem? (i := 3) rfl)
  have w_3 : (Cond.fieldLink RX7 171 "WishSeaModel" "dayOf" "[I").before args s = true := hts _ (List.mem_of_getElem? (i := 4) rfl)
  have w_4 : (Cond.fieldLink RX7 174 "WishSeaModel" "keptMany" "[I").before args s = true := hts _ (List.mem_of_getElem? (i := 5) rfl)
  have hinX7 : ∀ w ∈ u_ws RX7 TX7 92, w ∈ wsX7_copies := fun _ h => List.mem_cons_of_mem _ (List.mem_append_right _ h)
  refine lv_aload_n hx hb dX7_copies_0 rfl (lv_at hl 0 rfl) ?_
  refine k_get (D := (dC, dI)) (ci := 7) (v := .ref (p1 49)) (C := RX7) (T := TX7) (N := 92) hx hb hts hinX7 hown hK hP 0 rfl rfl 49 (by decide) w_0 rfl rfl dX7_copies_1 ?_
  refine lv_iload_n hx hb dX7_copies_4 rfl (lv_at hl 1 rfl) ?_
  refine lv_aload_n hx hb dX7_copies_5 rfl (lv_at hl 0 rfl) ?_
  refine k_get (D := (dC, dI)) (ci := 7) (v := .ref (p1 49)) (C := RX7) (T := TX7) (N := 92) hx hb hts hinX7 hown hK hP 0 rfl rfl 49 (by decide) w_0 rfl rfl dX7_copies_6 ?_
  refine lv_iload_n hx hb dX7_copies_9 rfl (lv_at hl 2 rfl) ?_
  refine k_iald (v := 0) hx hb hK hP 1 0 0 rfl rfl rfl (Nat.le_of_ble_eq_true rfl) (Nat.le_of_ble_eq_true rfl) rfl dX7_copies_10 ?_
  refine k_iast (g := (upd (fun _ => 0) 1 0)) (ws' := [(p0, .inr (7, oM p1 (upd i7 1 0) j7)), ((p1 49), .inl (cI, 22, .inl (upd (fun _ => 0) 1 0))), ((p1 50), .inl (cI, 22, .inl (fun _ => 0))), ((p1 51), .inl (cI, 22, .inl (fun _ => 0))), ((p1 52), .inl (cI, 22, .inl (fun _ => 0))), ((p1 53), .inl (cI, 22, .inl (fun _ => 0)))]) hx hb hK hP hD hS 1 0 1 rfl rfl rfl (Nat.le_of_ble_eq_true rfl) (Nat.le_of_ble_eq_true rfl) rfl rfl dX7_copies_11 (fun H locs hP hD hS => ?_)
  refine lv_aload_n hx hb dX7_copies_12 rfl (lv_at hl 0 rfl) ?_
  refine k_get (D := (dC, dI)) (ci := 7) (v := .ref (p1 50)) (C := RX7) (T := TX7) (N := 92) hx hb hts hinX7 hown hK hP 0 rfl rfl 50 (by decide) w_1 rfl rfl dX7_copies_13 ?_
  refine lv_iload_n hx hb dX7_copies_16 rfl (lv_at hl 1 rfl) ?_
  refine lv_aload_n hx hb dX7_copies_17 rfl (lv_at hl 0 rfl) ?_
  refine k_get (D := (dC, dI)) (ci := 7) (v := .ref (p1 50)) (C := RX7) (T := TX7) (N := 92) hx hb hts hinX7 hown hK hP 0 rfl rfl 50 (by decide) w_1 rfl rfl dX7_copies_18 ?_
  refine lv_iload_n hx hb dX7_copies_21 rfl (lv_at hl 2 rfl) ?_
  refine k_iald (v := 0) hx hb hK hP 2 0 0 rfl rfl rfl (Nat.le_of_ble_eq_true rfl) (Nat.le_of_ble_eq_true rfl) rfl dX7_copies_22 ?_
  refine k_iast (g := (upd (fun _ => 0) 1 0)) (ws' := [(p0, .inr (7, oM p1 (upd i7 1 0) j7)), ((p1 49), .inl (cI, 22, .inl (upd (fun _ => 0) 1 0))), ((p1 50), .inl (cI, 22, .inl (upd (fun _ => 0) 1 0))), ((p1 51), .inl (cI, 22, .inl (fun _ => 0))), ((p1 52), .inl (cI, 22, .inl (fun _ => 0))), ((p1 53), .inl (cI, 22, .inl (fun _ => 0)))]) hx hb hK hP hD hS 2 0 1 rfl rfl rfl (Nat.le_of_ble_eq_true rfl) (Nat.le_of_ble_eq_true rfl) rfl rfl dX7_copies_23 (fun H locs hP hD hS => ?_)
  refine lv_aload_n hx hb dX7_copies_24 rfl (lv_at hl 0 rfl) ?_
  refine k_get (D := (dC, dI)) (ci := 7) (v := .ref (p1 51)) (C := RX7) (T := TX7) (N := 92) hx hb hts hinX7 hown hK hP 0 rfl rfl 51 (by decide) w_2 rfl rfl dX7_copies_25 ?_
  refine lv_iload_n hx hb dX7_copies_28 rfl (lv_at hl 1 rfl) ?_
  refine lv_aload_n hx hb dX7_copies_29 rfl (lv_at hl 0 rfl) ?_
  refine k_get (D := (dC, dI)) (ci := 7) (v := .ref (p1 51)) (C := RX7) (T := TX7) (N := 92) hx hb hts hinX7 hown hK hP 0 rfl rfl 51 (by decide) w_2 rfl rfl dX7_copies_30 ?_
  refine lv_iload_n hx hb dX7_copies_33 rfl (lv_at hl 2 rfl) ?_
  refine k_iald (v := 0) hx hb hK hP 3 0 0 rfl rfl rfl (Nat.le_of_ble_eq_true rfl) (Nat.le_of_ble_eq_true rfl) rfl dX7_copies_34 ?_
  refine k_iast (g := (upd (fun _ => 0) 1 0)) (ws' := [(p0, .inr (7, oM p1 (upd i7 1 0) j7)), ((p1 49), .inl (cI, 22, .inl (upd (fun _ => 0) 1 0))), ((p1 50), .inl (cI, 22, .inl (upd (fun _ => 0) 1 0))), ((p1 51), .inl (cI, 22, .inl (upd (fun _ => 0) 1 0))), ((p1 52), .inl (cI, 22, .inl (fun _ => 0))), ((p1 53), .inl (cI, 22, .inl (fun _ => 0)))]) hx hb hK hP hD hS 3 0 1 rfl rfl rfl (Nat.le_of_ble_eq_true rfl) (Nat.le_of_ble_eq_true rfl) rfl rfl dX7_copies_35 (fun H locs hP hD hS => ?_)
  refine lv_aload_n hx hb dX7_copies_36 rfl (lv_at hl 0 rfl) ?_
  refine k_get (D := (dC, dI)) (ci := 7) (v := .ref (p1 52)) (C := RX7) (T := TX7) (N := 92) hx hb hts hinX7 hown hK hP 0 rfl rfl 52 (by decide) w_3 rfl rfl dX7_copies_37 ?_
  refine lv_iload_n hx hb dX7_copies_40 rfl (lv_at hl 1 rfl) ?_
  refine lv_aload_n hx hb dX7_copies_41 rfl (lv_at hl 0 rfl) ?_
  refine k_get (D := (dC, dI)) (ci := 7) (v := .ref (p1 52)) (C := RX7) (T := TX7) (N := 92) hx hb hts hinX7 hown hK hP 0 rfl rfl 52 (by decide) w_3 rfl rfl dX7_copies_42 ?_
  refine lv_iload_n hx hb dX7_copies_45 rfl (lv_at hl 2 rfl) ?_
  refine k_iald (v := 0) hx hb hK hP 4 0 0 rfl rfl rfl (Nat.le_of_ble_eq_true rfl) (Nat.le_of_ble_eq_true rfl) rfl dX7_copies_46 ?_
  refine k_iast (g := (upd (fun _ => 0) 1 0)) (ws' := [(p0, .inr (7, oM p1 (upd i7 1 0) j7)), ((p1 49), .inl (cI, 22, .inl (upd (fun _ => 0) 1 0))), ((p1 50), .inl (cI, 22, .inl (upd (fun _ => 0) 1 0))), ((p1 51), .inl (cI, 22, .inl (upd (fun _ => 0) 1 0))), ((p1 52), .inl (cI, 22, .inl (upd (fun _ => 0) 1 0))), ((p1 53), .inl (cI, 22, .inl (fun _ => 0)))]) hx hb hK hP hD hS 4 0 1 rfl rfl rfl (Nat.le_of_ble_eq_true rfl) (Nat.le_of_ble_eq_true rfl) rfl rfl dX7_copies_47 (fun H locs hP hD hS => ?_)
  refine lv_aload_n hx hb dX7_copies_48 rfl (lv_at hl 0 rfl) ?_
  refine k_get (D := (dC, dI)) (ci := 7) (v := .ref (p1 53)) (C := RX7) (T := TX7) (N := 92) hx hb hts hinX7 hown hK hP 0 rfl rfl 53 (by decide) w_4 rfl rfl dX7_copies_49 ?_
  refine lv_iload_n hx hb dX7_copies_52 rfl (lv_at hl 1 rfl) ?_
  refine lv_aload_n hx hb dX7_copies_53 rfl (lv_at hl 0 rfl) ?_
  refine k_get (D := (dC, dI)) (ci := 7) (v := .ref (p1 53)) (C := RX7) (T := TX7) (N := 92) hx hb hts hinX7 hown hK hP 0 rfl rfl 53 (by decide) w_4 rfl rfl dX7_copies_54 ?_
  refine lv_iload_n hx hb dX7_copies_57 rfl (lv_at hl 2 rfl) ?_
  refine k_iald (v := 0) hx hb hK hP 5 0 0 rfl rfl rfl (Nat.le_of_ble_eq_true rfl) (Nat.le_of_ble_eq_true rfl) rfl dX7_copies_58 ?_
  refine k_iast (g := (upd (fun _ => 0) 1 0)) (ws' := [(p0, .inr (7, oM p1 (upd i7 1 0) j7)), ((p1 49), .inl (cI, 22, .inl (upd (fun _ => 0) 1 0))), ((p1 50), .inl (cI, 22, .inl (upd (fun _ => 0) 1 0))), ((p1 51), .inl (cI, 22, .inl (upd (fun _ => 0) 1 0))), ((p1 52), .inl (cI, 22, .inl (upd (fun _ => 0) 1 0))), ((p1 53), .inl (cI, 22, .inl (upd (fun _ => 0) 1 0)))]) hx hb hK hP hD hS 5 0 1 rfl rfl rfl (Nat.le_of_ble_eq_true rfl) (Nat.le_of_ble_eq_true rfl) rfl rfl dX7_copies_59 (fun H locs hP hD hS => ?_)
  refine lv_iconst (v := 0) hx hb dX7_copies_60 (by decide +kernel) ?_
  refine lv_istore_n (lv' := [(3, .int 0), (0, .ref p0), (1, .int 1), (2, .int 0)]) hx hb dX7_copies_61 rfl hl (by decide) rfl (fun ls hl => ?_)
  refine lv_iload_n hx hb dX7_copies_62 rfl (lv_at hl 0 rfl) ?_
  refine lv_aload_n hx hb dX7_copies_63 rfl (lv_at hl 1 rfl) ?_
  refine k_get (D := (dC, dI)) (ci := 7) (v := .ref (p1 53)) (C := RX7) (T := TX7) (N := 92) hx hb hts hinX7 hown hK hP 0 rfl rfl 53 (by decide) w_4 rfl rfl dX7_copies_64 ?_
  refine lv_iload_n hx hb dX7_copies_67 rfl (lv_at hl 3 rfl) ?_
  refine k_iald (v := 0) hx hb hK hP 5 0 0 rfl rfl rfl (Nat.le_of_ble_eq_true rfl) (Nat.le_of_ble_eq_true rfl) rfl dX7_copies_68 ?_
  refine lv_icmp_ge (tgt := 166) hx hb dX7_copies_69 (by decide) (fun _ => ?_) (fun q9 => absurd q9 (by decide +kernel))
  exact k_rv B hP hD hS dX7_copies_166 () [0, 1, 2, 3, 4, 5] rfl rfl (Nat.le_of_ble_eq_true rfl) (Nat.le_of_ble_eq_true rfl) trivial
set_option maxHeartbeats 4000000 in
set_option maxRecDepth 100000 in
theorem c_X7_remembers_v0 (l : Launch) (dC : Nat → ClassId) (dI : Nat → Nat → Nat) (cI cJ cZ cM : ClassId) (p0 : Nat) (p1 : Nat → Nat)   : k_Mv l yX7_remembers wsX7_remembers ({ frames := 1, cells := 0, slots := 0, locals := 40 }) (dC, dI) vwCl (tyy cI cJ cZ cM) [(p0, .inr (7, oM p1 (upd (upd i7 1 0) 71 0) j7)), ((p1 49), .inl (cI, 22, .inl (upd (fun _ => 0) 1 0))), ((p1 50), .inl (cI, 22, .inl (upd (fun _ => 0) 1 0))), ((p1 52), .inl (cI, 22, .inl (upd (fun _ => 0) 1 0)))] [.ref p0, .int 0] 0 0 (fun (u9 : Unit) => [(p0, .inr (7, oM p1 (upd (upd (upd (upd (upd (upd i7 1 0) 67 0) 68 0) 69 0) 70 0) 71 0) j7)), ((p1 49), .inl (cI, 22, .inl (upd (fun _ => 0) 1 0))), ((p1 50), .inl (cI, 22, .inl (upd (fun _ => 0) 1 0))), ((p1 52), .inl (cI, 22, .inl (upd (fun _ => 0) 1 0)))]) (fun (u9 : Unit) => True) := by
  refine fun sz => k_enter (cc := cX7_remembers) (maxL := 2) (ret := none) (Qc := fun A => va_Qv (fun (u9 : Unit) => True) (fun u => k_B (dC, dI) vwCl (tyy cI cJ cZ cM) A ((fun (u9 : Unit) => [(p0, .inr (7, oM p1 (upd (upd (upd (upd (upd (upd i7 1 0) 67 0) 68 0) 69 0) 70 0) 71 0) j7)), ((p1 49), .inl (cI, 22, .inl (upd (fun _ => 0) 1 0))), ((p1 50), .inl (cI, 22, .inl (upd (fun _ => 0) 1 0))), ((p1 52), .inl (cI, 22, .inl (upd (fun _ => 0) 1 0)))]) u)) A) sz (by decide +kernel) rfl (Nat.le_of_ble_eq_true rfl) (fun p e s m args below meth c A ls H locs B hP hD hS hl => ?_)
  obtain ⟨hx, hb, hml, hown, hts, hr, hlk, hnm, hK, hA, hN, hC⟩ := id B
  have hown : s.vm.findClass RX7 = some m.cls := hown
  have hl : lv_has ls 2 [(0, .ref p0), (1, .int 0)] := hl
  have w_0 : (Cond.fieldLink RX7 216 "WishSeaModel" "wentEnd" "I").before args s = true := hts _ (List.mem_of_getElem? (i := 1) rfl)
  have w_1 : (Cond.fieldLink RX7 162 "WishSeaModel" "hadOf" "[I").before args s = true := hts _ (List.mem_of_getElem? (i := 2) rfl)
  have w_2 : (Cond.fieldLink RX7 219 "WishSeaModel" "wentHad" "I").before args s = true := hts _ (List.mem_of_getElem? (i := 3) rfl)
  have w_3 : (Cond.fieldLink RX7 165 "WishSeaModel" "seaOf" "[I").before args s = true := hts _ (List.mem_of_getElem? (i := 4) rfl)
  have w_4 : (Cond.fieldLink RX7 222 "WishSeaModel" "wentSea" "I").before args s = true := hts _ (List.mem_of_getElem? (i := 5) rfl)
  have w_5 : (Cond.fieldLink RX7 171 "WishSeaModel" "dayOf" "[I").before args s = true := hts _ (List.mem_of_getElem? (i := 6) rfl)
  have w_6 : (Cond.fieldLink RX7 225 "WishSeaModel" "wentDay" "I").before args s = true := hts _ (List.mem_of_getElem? (i := 7) rfl)
  have w_7 : (Cond.fieldLink RX7 228 "WishSeaModel" "wentMost" "I").before args s = true := hts _ (List.mem_of_getElem? (i := 8) rfl)
  have hinX7 : ∀ w ∈ u_ws RX7 TX7 92, w ∈ wsX7_remembers := fun _ h => List.mem_cons_of_mem _ (List.mem_append_right _ h)
  refine lv_aload_n hx hb dX7_remembers_0 rfl (lv_at hl 0 rfl) ?_
  refine lv_iload_n hx hb dX7_remembers_1 rfl (lv_at hl 1 rfl) ?_
  refine k_put (D := (dC, dI)) (ci := 7) (v := .int 0) (C := RX7) (T := TX7) (N := 92) (ws' := [(p0, .inr (7, oM p1 (upd (upd (upd i7 1 0) 67 0) 71 0) j7)), ((p1 49), .inl (cI, 22, .inl (upd (fun _ => 0) 1 0))), ((p1 50), .inl (cI, 22, .inl (upd (fun _ => 0) 1 0))), ((p1 52), .inl (cI, 22, .inl (upd (fun _ => 0) 1 0)))]) hx hb hts hinX7 tyX7 tyX7_ok nmX7 hown hK hP hD hS 0 rfl rfl 67 (by decide) w_0 rfl rfl rfl rfl (Nat.le_of_ble_eq_true rfl) rfl dX7_remembers_2 (fun H locs hP hD hS => ?_)
  refine lv_aload_n hx hb dX7_remembers_5 rfl (lv_at hl 0 rfl) ?_
  refine lv_aload_n hx hb dX7_remembers_6 rfl (lv_at hl 0 rfl) ?_
  refine k_get (D := (dC, dI)) (ci := 7) (v := .ref (p1 49)) (C := RX7) (T := TX7) (N := 92) hx hb hts hinX7 hown hK hP 0 rfl rfl 49 (by decide) w_1 rfl rfl dX7_remembers_7 ?_
  refine lv_iconst (v := 1) hx hb dX7_remembers_10 (by decide +kernel) ?_
  refine k_iald (v := 0) hx hb hK hP 1 0 1 rfl rfl rfl (Nat.le_of_ble_eq_true rfl) (Nat.le_of_ble_eq_true rfl) rfl dX7_remembers_11 ?_
  refine k_put (D := (dC, dI)) (ci := 7) (v := .int 0) (C := RX7) (T := TX7) (N := 92) (ws' := [(p0, .inr (7, oM p1 (upd (upd (upd (upd i7 1 0) 67 0) 68 0) 71 0) j7)), ((p1 49), .inl (cI, 22, .inl (upd (fun _ => 0) 1 0))), ((p1 50), .inl (cI, 22, .inl (upd (fun _ => 0) 1 0))), ((p1 52), .inl (cI, 22, .inl (upd (fun _ => 0) 1 0)))]) hx hb hts hinX7 tyX7 tyX7_ok nmX7 hown hK hP hD hS 0 rfl rfl 68 (by decide) w_2 rfl rfl rfl rfl (Nat.le_of_ble_eq_true rfl) rfl dX7_remembers_12 (fun H locs hP hD hS => ?_)
  refine lv_aload_n hx hb dX7_remembers_15 rfl (lv_at hl 0 rfl) ?_
  refine lv_aload_n hx hb dX7_remembers_16 rfl (lv_at hl 0 rfl) ?_
  refine k_get (D := (dC, dI)) (ci := 7) (v := .ref (p1 50)) (C := RX7) (T := TX7) (N := 92) hx hb hts hinX7 hown hK hP 0 rfl rfl 50 (by decide) w_3 rfl rfl dX7_remembers_17 ?_
  refine lv_iconst (v := 1) hx hb dX7_remembers_20 (by decide +kernel) ?_
  refine k_iald (v := 0) hx hb hK hP 2 0 1 rfl rfl rfl (Nat.le_of_ble_eq_true rfl) (Nat.le_of_ble_eq_true rfl) rfl dX7_remembers_21 ?_
  refine k_put (D := (dC, dI)) (ci := 7) (v := .int 0) (C := RX7) (T := TX7) (N := 92) (ws' := [(p0, .inr (7, oM p1 (upd (upd (upd (upd (upd i7 1 0) 67 0) 68 0) 69 0) 71 0) j7)), ((p1 49), .inl (cI, 22, .inl (upd (fun _ => 0) 1 0))), ((p1 50), .inl (cI, 22, .inl (upd (fun _ => 0) 1 0))), ((p1 52), .inl (cI, 22, .inl (upd (fun _ => 0) 1 0)))]) hx hb hts hinX7 tyX7 tyX7_ok nmX7 hown hK hP hD hS 0 rfl rfl 69 (by decide) w_4 rfl rfl rfl rfl (Nat.le_of_ble_eq_true rfl) rfl dX7_remembers_22 (fun H locs hP hD hS => ?_)
  refine lv_aload_n hx hb dX7_remembers_25 rfl (lv_at hl 0 rfl) ?_
  refine lv_aload_n hx hb dX7_remembers_26 rfl (lv_at hl 0 rfl) ?_
  refine k_get (D := (dC, dI)) (ci := 7) (v := .ref (p1 52)) (C := RX7) (T := TX7) (N := 92) hx hb hts hinX7 hown hK hP 0 rfl rfl 52 (by decide) w_5 rfl rfl dX7_remembers_27 ?_
  refine lv_iconst (v := 1) hx hb dX7_remembers_30 (by decide +kernel) ?_
  refine k_iald (v := 0) hx hb hK hP 3 0 1 rfl rfl rfl (Nat.le_of_ble_eq_true rfl) (Nat.le_of_ble_eq_true rfl) rfl dX7_remembers_31 ?_
  refine k_put (D := (dC, dI)) (ci := 7) (v := .int 0) (C := RX7) (T := TX7) (N := 92) (ws' := [(p0, .inr (7, oM p1 (upd (upd (upd (upd (upd (upd i7 1 0) 67 0) 68 0) 69 0) 70 0) 71 0) j7)), ((p1 49), .inl (cI, 22, .inl (upd (fun _ => 0) 1 0))), ((p1 50), .inl (cI, 22, .inl (upd (fun _ => 0) 1 0))), ((p1 52), .inl (cI, 22, .inl (upd (fun _ => 0) 1 0)))]) hx hb hts hinX7 tyX7 tyX7_ok nmX7 hown hK hP hD hS 0 rfl rfl 70 (by decide) w_6 rfl rfl rfl rfl (Nat.le_of_ble_eq_true rfl) rfl dX7_remembers_32 (fun H locs hP hD hS => ?_)
  refine lv_aload_n hx hb dX7_remembers_35 rfl (lv_at hl 0 rfl) ?_
  refine lv_aload_n hx hb dX7_remembers_36 rfl (lv_at hl 0 rfl) ?_
  refine k_get (D := (dC, dI)) (ci := 7) (v := .int 0) (C := RX7) (T := TX7) (N := 92) hx hb hts hinX7 hown hK hP 0 rfl rfl 69 (by decide) w_4 rfl rfl dX7_remembers_37 ?_
  refine lv_aload_n hx hb dX7_remembers_40 rfl (lv_at hl 0 rfl) ?_
  refine k_get (D := (dC, dI)) (ci := 7) (v := .int 0) (C := RX7) (T := TX7) (N := 92) hx hb hts hinX7 hown hK hP 0 rfl rfl 71 (by decide) w_7 rfl rfl dX7_remembers_41 ?_
  refine lv_icmp_le (tgt := 54) hx hb dX7_remembers_44 (by decide) (fun _ => ?_) (fun q9 => absurd q9 (by decide +kernel))
  refine lv_aload_n hx hb dX7_remembers_54 rfl (lv_at hl 0 rfl) ?_
  refine k_get (D := (dC, dI)) (ci := 7) (v := .int 0) (C := RX7) (T := TX7) (N := 92) hx hb hts hinX7 hown hK hP 0 rfl rfl 71 (by decide) w_7 rfl rfl dX7_remembers_55 ?_
  refine k_put (D := (dC, dI)) (ci := 7) (v := .int 0) (C := RX7) (T := TX7) (N := 92) (ws' := [(p0, .inr (7, oM p1 (upd (upd (upd (upd (upd (upd i7 1 0) 67 0) 68 0) 69 0) 70 0) 71 0) j7)), ((p1 49), .inl (cI, 22, .inl (upd (fun _ => 0) 1 0))), ((p1 50), .inl (cI, 22, .inl (upd (fun _ => 0) 1 0))), ((p1 52), .inl (cI, 22, .inl (upd (fun _ => 0) 1 0)))]) hx hb hts hinX7 tyX7 tyX7_ok nmX7 hown hK hP hD hS 0 rfl rfl 71 (by decide) w_7 rfl rfl rfl rfl (Nat.le_of_ble_eq_true rfl) rfl dX7_remembers_58 (fun H locs hP hD hS => ?_)
  exact k_rv B hP hD hS dX7_remembers_61 () [0, 1, 2, 3] rfl rfl (Nat.le_of_ble_eq_true rfl) (Nat.le_of_ble_eq_true rfl) trivial
set_option maxHeartbeats 4000000 in
set_option maxRecDepth 100000 in
theorem c_X7_row_v0 (l : Launch) (dC : Nat → ClassId) (dI : Nat → Nat → Nat) (cI cJ cZ cM : ClassId) (p0 : Nat) (p1 : Nat → Nat)   : k_Mi l yX7_row wsX7_row ({ frames := 2, cells := 0, slots := 0, locals := 63 }) (dC, dI) vwCl (tyy cI cJ cZ cM) [(p0, .inr (7, oM p1 i7 j7)), ((p1 49), .inl (cI, 22, .inl (fun _ => 0))), ((p1 50), .inl (cI, 22, .inl (fun _ => 0))), ((p1 51), .inl (cI, 22, .inl (fun _ => 0))), ((p1 52), .inl (cI, 22, .inl (fun _ => 0))), ((p1 53), .inl (cI, 22, .inl (fun _ => 0)))] [.ref p0] 0 0 (fun (u9 : Unit) => [(p0, .inr (7, oM p1 (upd (upd (upd (upd (upd (upd i7 1 0) 67 0) 68 0) 69 0) 70 0) 71 0) j7)), ((p1 49), .inl (cI, 22, .inl (upd (fun _ => 0) 1 0))), ((p1 50), .inl (cI, 22, .inl (upd (fun _ => 0) 1 0))), ((p1 51), .inl (cI, 22, .inl (upd (fun _ => 0) 1 0))), ((p1 52), .inl (cI, 22, .inl (upd (fun _ => 0) 1 0))), ((p1 53), .inl (cI, 22, .inl (upd (fun _ => 0) 1 0)))]) (fun (r9 : Int32) (u9 : Unit) => r9 = 0) := by
  refine fun sz => k_enter (cc := cX7_row) (maxL := 5) (ret := some (.int)) (Qc := fun A => va_Qi (fun (r9 : Int32) (u9 : Unit) => r9 = 0) (fun u => k_B (dC, dI) vwCl (tyy cI cJ cZ cM) A ((fun (u9 : Unit) => [(p0, .inr (7, oM p1 (upd (upd (upd (upd (upd (upd i7 1 0) 67 0) 68 0) 69 0) 70 0) 71 0) j7)), ((p1 49), .inl (cI, 22, .inl (upd (fun _ => 0) 1 0))), ((p1 50), .inl (cI, 22, .inl (upd (fun _ => 0) 1 0))), ((p1 51), .inl (cI, 22, .inl (upd (fun _ => 0) 1 0))), ((p1 52), .inl (cI, 22, .inl (upd (fun _ => 0) 1 0))), ((p1 53), .inl (cI, 22, .inl (upd (fun _ => 0) 1 0)))]) u)) A) sz (by decide +kernel) rfl (Nat.le_of_ble_eq_true rfl) (fun p e s m args below meth c A ls H locs B hP hD hS hl => ?_)
  obtain ⟨hx, hb, hml, hown, hts, hr, hlk, hnm, hK, hA, hN, hC⟩ := id B
  have hown : s.vm.findClass RX7 = some m.cls := hown
  have hl : lv_has ls 5 [(0, .ref p0)] := hl
  have w_0 : (Cond.fieldLink RX7 13 "WishSeaModel" "taped" "I").before args s = true := hts _ (List.mem_of_getElem? (i := 1) rfl)
  have w_1 : (Cond.fieldLink RX7 228 "WishSeaModel" "wentMost" "I").before args s = true := hts _ (List.mem_of_getElem? (i := 2) rfl)
  have hinX7 : ∀ w ∈ u_ws RX7 TX7 92, w ∈ wsX7_row := fun _ h => List.mem_cons_of_mem _ (List.mem_append_right _ h)
  refine lv_aload_n hx hb dX7_row_0 rfl (lv_at hl 0 rfl) ?_
  refine k_get (D := (dC, dI)) (ci := 7) (v := .int 0) (C := RX7) (T := TX7) (N := 92) hx hb hts hinX7 hown hK hP 0 rfl rfl 1 (by decide) w_0 rfl rfl dX7_row_1 ?_
  refine lv_istore_n (lv' := [(1, .int 0), (0, .ref p0)]) hx hb dX7_row_4 rfl hl (by decide) rfl (fun ls hl => ?_)
  refine lv_aload_n hx hb dX7_row_5 rfl (lv_at hl 1 rfl) ?_
  refine lv_iconst (v := 0) hx hb dX7_row_6 (by decide +kernel) ?_
  refine k_put (D := (dC, dI)) (ci := 7) (v := .int 0) (C := RX7) (T := TX7) (N := 92) (ws' := [(p0, .inr (7, oM p1 (upd i7 1 0) j7)), ((p1 49), .inl (cI, 22, .inl (fun _ => 0))), ((p1 50), .inl (cI, 22, .inl (fun _ => 0))), ((p1 51), .inl (cI, 22, .inl (fun _ => 0))), ((p1 52), .inl (cI, 22, .inl (fun _ => 0))), ((p1 53), .inl (cI, 22, .inl (fun _ => 0)))]) hx hb hts hinX7 tyX7 tyX7_ok nmX7 hown hK hP hD hS 0 rfl rfl 1 (by decide) w_0 rfl rfl rfl rfl (Nat.le_of_ble_eq_true rfl) rfl dX7_row_7 (fun H locs hP hD hS => ?_)
  refine lv_iload_n hx hb dX7_row_10 rfl (lv_at hl 0 rfl) ?_
  refine lv_bipush (v := 40) hx hb dX7_row_11 (by decide +kernel) ?_
  refine lv_icmp_gt (tgt := 25) hx hb dX7_row_13 (by decide) (fun q9 => absurd q9 (by decide +kernel)) (fun _ => ?_)
  refine lv_aload_n hx hb dX7_row_16 rfl (lv_at hl 1 rfl) ?_
  refine lv_iload_n hx hb dX7_row_17 rfl (lv_at hl 0 rfl) ?_
  refine lv_iconst (v := 1) hx hb dX7_row_18 (by decide +kernel) ?_
  refine k_ci (wc := []) (wr := [(p0, .inr (7, oM p1 (upd i7 1 0) j7)), ((p1 49), .inl (cI, 22, .inl (fun _ => 0))), ((p1 50), .inl (cI, 22, .inl (fun _ => 0))), ((p1 51), .inl (cI, 22, .inl (fun _ => 0))), ((p1 52), .inl (cI, 22, .inl (fun _ => 0))), ((p1 53), .inl (cI, 22, .inl (fun _ => 0)))]) (fun hPc hDc hFc => va_runV (As := [.int 0, .int 1]) (rest := []) ⟨hx, hb, hml, hown, hts⟩ (c_X7_areWishes_v0 l dC dI cI cJ cZ cM p0 H.size) (cwV 2 hts gX7_row_X7_areWishes rfl rfl rfl (by decide +kernel) ⟨(Nat.le_of_ble_eq_true rfl), (Nat.le_of_ble_eq_true rfl)⟩) (k_pV hPc hDc hK hN hC hS hFc hP (q0 := 0) (ci := 7) rfl rfl) rfl rfl hl.1 rfl (lv_room (Nat.le_of_ble_eq_true rfl)) dX7_row_19 ⟨(Nat.le_of_ble_eq_true rfl), (Nat.le_of_ble_eq_true rfl)⟩) hP hD hS hA [] [0, 1, 2, 3, 4, 5] rfl rfl rfl rfl (by decide) (fun _ => rfl) 0 0 rfl rfl (fun r_1 u_2 H locs hw hP hD hS => ?_)
  obtain rfl : r_1 = 1 := hw
  have hP : va_P (dC, dI) vwCl [(p0, .inr (7, oM p1 (upd i7 1 0) j7)), ((p1 49), .inl (cI, 22, .inl (fun _ => 0))), ((p1 50), .inl (cI, 22, .inl (fun _ => 0))), ((p1 51), .inl (cI, 22, .inl (fun _ => 0))), ((p1 52), .inl (cI, 22, .inl (fun _ => 0))), ((p1 53), .inl (cI, 22, .inl (fun _ => 0)))] H := hP
  have hD : va_D A [(p0, .inr (7, oM p1 (upd i7 1 0) j7)), ((p1 49), .inl (cI, 22, .inl (fun _ => 0))), ((p1 50), .inl (cI, 22, .inl (fun _ => 0))), ((p1 51), .inl (cI, 22, .inl (fun _ => 0))), ((p1 52), .inl (cI, 22, .inl (fun _ => 0))), ((p1 53), .inl (cI, 22, .inl (fun _ => 0)))] := hD
  refine lv_if_ne (tgt := 31) hx hb dX7_row_22 (by decide) (fun _ => ?_) (fun q9 => absurd q9 (by decide +kernel))
  refine lv_aload_n hx hb dX7_row_31 rfl (lv_at hl 1 rfl) ?_
  refine lv_iconst (v := 1) hx hb dX7_row_32 (by decide +kernel) ?_
  refine lv_iconst (v := 0) hx hb dX7_row_33 (by decide +kernel) ?_
  refine k_cv (wc := [(p0, .inr (7, oM p1 (upd i7 1 0) j7)), ((p1 49), .inl (cI, 22, .inl (fun _ => 0))), ((p1 50), .inl (cI, 22, .inl (fun _ => 0))), ((p1 51), .inl (cI, 22, .inl (fun _ => 0))), ((p1 52), .inl (cI, 22, .inl (fun _ => 0))), ((p1 53), .inl (cI, 22, .inl (fun _ => 0)))]) (wr := []) (fun hPc hDc hFc => va_runV (As := [.int 1, .int 0]) (rest := []) ⟨hx, hb, hml, hown, hts⟩ (c_X7_copies_v1 l dC dI cI cJ cZ cM p0 p1 H.size) (cwV 2 hts gX7_row_X7_copies rfl rfl rfl (by decide +kernel) ⟨(Nat.le_of_ble_eq_true rfl), (Nat.le_of_ble_eq_true rfl)⟩) (k_pV hPc hDc hK hN hC hS hFc hP (q0 := 0) (ci := 7) rfl rfl) rfl rfl hl.1 rfl (lv_room (Nat.le_of_ble_eq_true rfl)) dX7_row_34 ⟨(Nat.le_of_ble_eq_true rfl), (Nat.le_of_ble_eq_true rfl)⟩) hP hD hS hA [0, 1, 2, 3, 4, 5] [] rfl rfl rfl rfl (by decide) (fun _ => rfl) 0 0 rfl rfl (fun u_4 H locs hw hP hD hS => ?_)
  have hP : va_P (dC, dI) vwCl [(p0, .inr (7, oM p1 (upd i7 1 0) j7)), ((p1 49), .inl (cI, 22, .inl (upd (fun _ => 0) 1 0))), ((p1 50), .inl (cI, 22, .inl (upd (fun _ => 0) 1 0))), ((p1 51), .inl (cI, 22, .inl (upd (fun _ => 0) 1 0))), ((p1 52), .inl (cI, 22, .inl (upd (fun _ => 0) 1 0))), ((p1 53), .inl (cI, 22, .inl (upd (fun _ => 0) 1 0)))] H := hP
  have hD : va_D A [(p0, .inr (7, oM p1 (upd i7 1 0) j7)), ((p1 49), .inl (cI, 22, .inl (upd (fun _ => 0) 1 0))), ((p1 50), .inl (cI, 22, .inl (upd (fun _ => 0) 1 0))), ((p1 51), .inl (cI, 22, .inl (upd (fun _ => 0) 1 0))), ((p1 52), .inl (cI, 22, .inl (upd (fun _ => 0) 1 0))), ((p1 53), .inl (cI, 22, .inl (upd (fun _ => 0) 1 0)))] := hD
  refine lv_aload_n hx hb dX7_row_37 rfl (lv_at hl 1 rfl) ?_
  refine lv_iconst (v := 0) hx hb dX7_row_38 (by decide +kernel) ?_
  refine k_put (D := (dC, dI)) (ci := 7) (v := .int 0) (C := RX7) (T := TX7) (N := 92) (ws' := [(p0, .inr (7, oM p1 (upd (upd i7 1 0) 71 0) j7)), ((p1 49), .inl (cI, 22, .inl (upd (fun _ => 0) 1 0))), ((p1 50), .inl (cI, 22, .inl (upd (fun _ => 0) 1 0))), ((p1 51), .inl (cI, 22, .inl (upd (fun _ => 0) 1 0))), ((p1 52), .inl (cI, 22, .inl (upd (fun _ => 0) 1 0))), ((p1 53), .inl (cI, 22, .inl (upd (fun _ => 0) 1 0)))]) hx hb hts hinX7 tyX7 tyX7_ok nmX7 hown hK hP hD hS 0 rfl rfl 71 (by decide) w_1 rfl rfl rfl rfl (Nat.le_of_ble_eq_true rfl) rfl dX7_row_39 (fun H locs hP hD hS => ?_)
  refine lv_aload_n hx hb dX7_row_42 rfl (lv_at hl 1 rfl) ?_
  refine lv_iconst (v := 0) hx hb dX7_row_43 (by decide +kernel) ?_
  refine k_cv (wc := [(p0, .inr (7, oM p1 (upd (upd i7 1 0) 71 0) j7)), ((p1 49), .inl (cI, 22, .inl (upd (fun _ => 0) 1 0))), ((p1 50), .inl (cI, 22, .inl (upd (fun _ => 0) 1 0))), ((p1 52), .inl (cI, 22, .inl (upd (fun _ => 0) 1 0)))]) (wr := [((p1 51), .inl (cI, 22, .inl (upd (fun _ => 0) 1 0))), ((p1 53), .inl (cI, 22, .inl (upd (fun _ => 0) 1 0)))]) (fun hPc hDc hFc => va_runV (As := [.int 0]) (rest := []) ⟨hx, hb, hml, hown, hts⟩ (c_X7_remembers_v0 l dC dI cI cJ cZ cM p0 p1 H.size) (cwV 1 hts gX7_row_X7_remembers rfl rfl rfl (by decide +kernel) ⟨(Nat.le_of_ble_eq_true rfl), (Nat.le_of_ble_eq_true rfl)⟩) (k_pV hPc hDc hK hN hC hS hFc hP (q0 := 0) (ci := 7) rfl rfl) rfl rfl hl.1 rfl (lv_room (Nat.le_of_ble_eq_true rfl)) dX7_row_44 ⟨(Nat.le_of_ble_eq_true rfl), (Nat.le_of_ble_eq_true rfl)⟩) hP hD hS hA [0, 1, 2, 4] [3, 5] rfl rfl rfl rfl (by decide) (fun _ => rfl) 0 0 rfl rfl (fun u_6 H locs hw hP hD hS => ?_)
  have hP : va_P (dC, dI) vwCl [((p1 51), .inl (cI, 22, .inl (upd (fun _ => 0) 1 0))), ((p1 53), .inl (cI, 22, .inl (upd (fun _ => 0) 1 0))), (p0, .inr (7, oM p1 (upd (upd (upd (upd (upd (upd i7 1 0) 67 0) 68 0) 69 0) 70 0) 71 0) j7)), ((p1 49), .inl (cI, 22, .inl (upd (fun _ => 0) 1 0))), ((p1 50), .inl (cI, 22, .inl (upd (fun _ => 0) 1 0))), ((p1 52), .inl (cI, 22, .inl (upd (fun _ => 0) 1 0)))] H := hP
  have hD : va_D A [((p1 51), .inl (cI, 22, .inl (upd (fun _ => 0) 1 0))), ((p1 53), .inl (cI, 22, .inl (upd (fun _ => 0) 1 0))), (p0, .inr (7, oM p1 (upd (upd (upd (upd (upd (upd i7 1 0) 67 0) 68 0) 69 0) 70 0) 71 0) j7)), ((p1 49), .inl (cI, 22, .inl (upd (fun _ => 0) 1 0))), ((p1 50), .inl (cI, 22, .inl (upd (fun _ => 0) 1 0))), ((p1 52), .inl (cI, 22, .inl (upd (fun _ => 0) 1 0)))] := hD
  refine lv_iconst (v := 0) hx hb dX7_row_47 (by decide +kernel) ?_
  refine lv_istore_n (lv' := [(2, .int 0), (1, .int 0), (0, .ref p0)]) hx hb dX7_row_48 rfl hl (by decide) rfl (fun ls hl => ?_)
  refine lv_iconst (v := 1) hx hb dX7_row_49 (by decide +kernel) ?_
  refine lv_istore_n (lv' := [(3, .int 1), (2, .int 0), (1, .int 0), (0, .ref p0)]) hx hb dX7_row_50 rfl hl (by decide) rfl (fun ls hl => ?_)
  refine lv_iload_n hx hb dX7_row_51 rfl (lv_at hl 1 rfl) ?_
  refine lv_iload_n hx hb dX7_row_52 rfl (lv_at hl 2 rfl) ?_
  refine lv_icmp_ge (tgt := 107) hx hb dX7_row_53 (by decide) (fun _ => ?_) (fun q9 => absurd q9 (by decide +kernel))
  refine lv_iload_n hx hb dX7_row_107 rfl (lv_at hl 1 rfl) ?_
  exact k_ri B hP hD hS dX7_row_108 () [2, 3, 4, 0, 5, 1] rfl rfl rfl (Nat.le_of_ble_eq_true rfl) (Nat.le_of_ble_eq_true rfl) rfl
