set_option maxHeartbeats 4000000 in
set_option maxRecDepth 100000 in
theorem c_X7_ends_v0 (l : Launch) (dC : Nat → ClassId) (dI : Nat → Nat → Nat) (cI cJ cZ cM : ClassId) (p0 : Nat) (p1 : Int32) (p2 : Nat → Nat)   : k_Mi l yX7_ends wsX7_ends ({ frames := 4, cells := 0, slots := 0, locals := 112 }) (dC, dI) vwCl (tyy cI cJ cZ cM) [(p0, .inr (7, oM p2 i7 j7)), ((p2 49), .inl (cI, 22, .inl (fun _ => 0))), ((p2 50), .inl (cI, 22, .inl (fun _ => 0))), ((p2 72), .inl (cI, 9216, .inl (fun _ => 0))), ((p2 14), .inl (cI, 2, .inl (fun _ => 0))), ((p2 18), .inl (cI, 2, .inl (fun _ => 0))), ((p2 51), .inl (cI, 22, .inl (fun _ => 0))), ((p2 52), .inl (cI, 22, .inl (fun _ => 0))), ((p2 28), .inl (cI, 2, .inl (upd (fun _ => 0) 0 (-1))))] [.ref p0, .int p1] 0 0 (fun (u9 : (Nat × (Nat → Nat))) => match u9.1 with | 0 => [(p0, .inr (7, oM p2 i7 j7)), ((p2 49), .inl (cI, 22, .inl (fun _ => 0))), ((p2 50), .inl (cI, 22, .inl (fun _ => 0))), ((p2 72), .inl (cI, 9216, .inl (fun _ => 0))), ((p2 14), .inl (cI, 2, .inl (fun _ => 0))), ((p2 18), .inl (cI, 2, .inl (fun _ => 0))), ((p2 51), .inl (cI, 22, .inl (fun _ => 0))), ((p2 52), .inl (cI, 22, .inl (fun _ => 0))), ((p2 28), .inl (cI, 2, .inl (upd (fun _ => 0) 0 (-1))))] | 1 => [(p0, .inr (7, oM p2 i7 j7)), ((p2 49), .inl (cI, 22, .inl (fun _ => 0))), ((p2 50), .inl (cI, 22, .inl (fun _ => 0))), ((p2 72), .inl (cI, 9216, .inl (fun _ => 0))), ((p2 14), .inl (cI, 2, .inl (fun _ => 0))), ((p2 18), .inl (cI, 2, .inl (fun _ => 0))), ((p2 51), .inl (cI, 22, .inl (fun _ => 0))), ((p2 52), .inl (cI, 22, .inl (fun _ => 0))), ((p2 28), .inl (cI, 2, .inl (upd (fun _ => 0) 0 (-1))))] | 2 => [(p0, .inr (7, oM p2 (upd (upd (upd (upd (upd (upd i7 62 0) 63 0) 64 0) 65 0) 66 (-1)) 75 (-1)) j7)), ((p2 49), .inl (cI, 22, .inl (fun _ => 0))), ((p2 50), .inl (cI, 22, .inl (fun _ => 0))), ((p2 72), .inl (cI, 9216, .inl (upd (fun _ => (-1)) 0 0))), ((p2 14), .inl (cI, 2, .inl (fun _ => 0))), ((p2 18), .inl (cI, 2, .inl (fun _ => 0))), ((p2 51), .inl (cI, 22, .inl (fun _ => 0))), ((p2 52), .inl (cI, 22, .inl (fun _ => 0))), ((p2 28), .inl (cI, 2, .inl (upd (fun _ => 0) 0 (-1))))] | _ => []) (fun (r9 : Int32) (u9 : (Nat × (Nat → Nat))) => match u9.1 with | 0 => (p1.toInt < 0) ∧ r9 = (-1) | 1 => (0 ≤ p1.toInt) ∧ (2 < p1.toInt) ∧ r9 = (-1) | 2 => (0 ≤ p1.toInt) ∧ (p1.toInt ≤ 2) ∧ r9 = (-1) | _ => False) := by
  refine fun sz => k_enter (cc := cX7_ends) (maxL := 2) (ret := some (.int)) (Qc := fun A => va_Qi (fun (r9 : Int32) (u9 : (Nat × (Nat → Nat))) => match u9.1 with | 0 => (p1.toInt < 0) ∧ r9 = (-1) | 1 => (0 ≤ p1.toInt) ∧ (2 < p1.toInt) ∧ r9 = (-1) | 2 => (0 ≤ p1.toInt) ∧ (p1.toInt ≤ 2) ∧ r9 = (-1) | _ => False) (fun u => k_B (dC, dI) vwCl (tyy cI cJ cZ cM) A ((fun (u9 : (Nat × (Nat → Nat))) => match u9.1 with | 0 => [(p0, .inr (7, oM p2 i7 j7)), ((p2 49), .inl (cI, 22, .inl (fun _ => 0))), ((p2 50), .inl (cI, 22, .inl (fun _ => 0))), ((p2 72), .inl (cI, 9216, .inl (fun _ => 0))), ((p2 14), .inl (cI, 2, .inl (fun _ => 0))), ((p2 18), .inl (cI, 2, .inl (fun _ => 0))), ((p2 51), .inl (cI, 22, .inl (fun _ => 0))), ((p2 52), .inl (cI, 22, .inl (fun _ => 0))), ((p2 28), .inl (cI, 2, .inl (upd (fun _ => 0) 0 (-1))))] | 1 => [(p0, .inr (7, oM p2 i7 j7)), ((p2 49), .inl (cI, 22, .inl (fun _ => 0))), ((p2 50), .inl (cI, 22, .inl (fun _ => 0))), ((p2 72), .inl (cI, 9216, .inl (fun _ => 0))), ((p2 14), .inl (cI, 2, .inl (fun _ => 0))), ((p2 18), .inl (cI, 2, .inl (fun _ => 0))), ((p2 51), .inl (cI, 22, .inl (fun _ => 0))), ((p2 52), .inl (cI, 22, .inl (fun _ => 0))), ((p2 28), .inl (cI, 2, .inl (upd (fun _ => 0) 0 (-1))))] | 2 => [(p0, .inr (7, oM p2 (upd (upd (upd (upd (upd (upd i7 62 0) 63 0) 64 0) 65 0) 66 (-1)) 75 (-1)) j7)), ((p2 49), .inl (cI, 22, .inl (fun _ => 0))), ((p2 50), .inl (cI, 22, .inl (fun _ => 0))), ((p2 72), .inl (cI, 9216, .inl (upd (fun _ => (-1)) 0 0))), ((p2 14), .inl (cI, 2, .inl (fun _ => 0))), ((p2 18), .inl (cI, 2, .inl (fun _ => 0))), ((p2 51), .inl (cI, 22, .inl (fun _ => 0))), ((p2 52), .inl (cI, 22, .inl (fun _ => 0))), ((p2 28), .inl (cI, 2, .inl (upd (fun _ => 0) 0 (-1))))] | _ => []) u)) A) sz (by decide +kernel) rfl (Nat.le_of_ble_eq_true rfl) (fun p e s m args below meth c A ls H locs B hP hD hS hl => ?_)
  obtain ⟨hx, hb, hml, hown, hts, hr, hlk, hnm, hK, hA, hN, hC⟩ := id B
  have hown : s.vm.findClass RX7 = some m.cls := hown
  have hl : lv_has ls 2 [(0, .ref p0), (1, .int p1)] := hl
  have w_0 : (Cond.fieldLink RX7 240 "WishSeaModel" "foundRung" "I").before args s = true := hts _ (List.mem_of_getElem? (i := 1) rfl)
  have hinX7 : ∀ w ∈ u_ws RX7 TX7 92, w ∈ wsX7_ends := fun _ h => List.mem_cons_of_mem _ (List.mem_append_right _ h)
  refine lv_iload_n hx hb dX7_ends_0 rfl (lv_at hl 1 rfl) ?_
  refine lv_iconst (v := 0) hx hb dX7_ends_1 (by decide +kernel) ?_
  refine lv_iconst (v := 2) hx hb dX7_ends_2 (by decide +kernel) ?_
  refine k_ci (wc := []) (wr := [(p0, .inr (7, oM p2 i7 j7)), ((p2 49), .inl (cI, 22, .inl (fun _ => 0))), ((p2 50), .inl (cI, 22, .inl (fun _ => 0))), ((p2 72), .inl (cI, 9216, .inl (fun _ => 0))), ((p2 14), .inl (cI, 2, .inl (fun _ => 0))), ((p2 18), .inl (cI, 2, .inl (fun _ => 0))), ((p2 51), .inl (cI, 22, .inl (fun _ => 0))), ((p2 52), .inl (cI, 22, .inl (fun _ => 0))), ((p2 28), .inl (cI, 2, .inl (upd (fun _ => 0) 0 (-1))))]) (fun hPc hDc hFc => va_runS (As := [.int p1, .int 0, .int 2]) (rest := []) ⟨hx, hb, hml, hown, hts⟩ (c_X7_is_v25 l dC dI cI cJ cZ cM p1 H.size) (va_cwS 3 hts gX7_ends_X7_is rfl rfl rfl (by decide +kernel) ⟨(Nat.le_of_ble_eq_true rfl), (Nat.le_of_ble_eq_true rfl)⟩) (k_pS hPc hDc hK hN hC hS hFc) rfl rfl hl.1 rfl (lv_room (Nat.le_of_ble_eq_true rfl)) dX7_ends_3 ⟨(Nat.le_of_ble_eq_true rfl), (Nat.le_of_ble_eq_true rfl)⟩) hP hD hS hA [] [0, 1, 2, 3, 4, 5, 6, 7, 8] rfl rfl rfl rfl (by decide) (fun _ => rfl) 0 0 rfl rfl (fun r_1 u_2 H locs hw hP hD hS => ?_)
  obtain ⟨k_u_2, u_u_2⟩ := u_2
  rcases k_u_2 with _ | _ | _ | k_u_2
  · obtain ⟨c_3, rfl⟩ : (p1.toInt < 0) ∧ r_1 = 0 := hw
    have hP : va_P (dC, dI) vwCl [(p0, .inr (7, oM p2 i7 j7)), ((p2 49), .inl (cI, 22, .inl (fun _ => 0))), ((p2 50), .inl (cI, 22, .inl (fun _ => 0))), ((p2 72), .inl (cI, 9216, .inl (fun _ => 0))), ((p2 14), .inl (cI, 2, .inl (fun _ => 0))), ((p2 18), .inl (cI, 2, .inl (fun _ => 0))), ((p2 51), .inl (cI, 22, .inl (fun _ => 0))), ((p2 52), .inl (cI, 22, .inl (fun _ => 0))), ((p2 28), .inl (cI, 2, .inl (upd (fun _ => 0) 0 (-1))))] H := hP
    have hD : va_D A [(p0, .inr (7, oM p2 i7 j7)), ((p2 49), .inl (cI, 22, .inl (fun _ => 0))), ((p2 50), .inl (cI, 22, .inl (fun _ => 0))), ((p2 72), .inl (cI, 9216, .inl (fun _ => 0))), ((p2 14), .inl (cI, 2, .inl (fun _ => 0))), ((p2 18), .inl (cI, 2, .inl (fun _ => 0))), ((p2 51), .inl (cI, 22, .inl (fun _ => 0))), ((p2 52), .inl (cI, 22, .inl (fun _ => 0))), ((p2 28), .inl (cI, 2, .inl (upd (fun _ => 0) 0 (-1))))] := hD
    refine lv_if_ne (tgt := 11) hx hb dX7_ends_6 (by decide) (fun q9 => absurd q9 (by decide +kernel)) (fun _ => ?_)
    refine lv_iconst (v := (-1)) hx hb dX7_ends_9 (by decide +kernel) ?_
    exact k_ri B hP hD hS dX7_ends_10 (0, (fun _ => 0)) [0, 1, 2, 3, 4, 5, 6, 7, 8] rfl rfl rfl (Nat.le_of_ble_eq_true rfl) (Nat.le_of_ble_eq_true rfl) ⟨c_3, rfl⟩
  · obtain ⟨c_4, c_5, rfl⟩ : (0 ≤ p1.toInt) ∧ (2 < p1.toInt) ∧ r_1 = 0 := hw
    have hP : va_P (dC, dI) vwCl [(p0, .inr (7, oM p2 i7 j7)), ((p2 49), .inl (cI, 22, .inl (fun _ => 0))), ((p2 50), .inl (cI, 22, .inl (fun _ => 0))), ((p2 72), .inl (cI, 9216, .inl (fun _ => 0))), ((p2 14), .inl (cI, 2, .inl (fun _ => 0))), ((p2 18), .inl (cI, 2, .inl (fun _ => 0))), ((p2 51), .inl (cI, 22, .inl (fun _ => 0))), ((p2 52), .inl (cI, 22, .inl (fun _ => 0))), ((p2 28), .inl (cI, 2, .inl (upd (fun _ => 0) 0 (-1))))] H := hP
    have hD : va_D A [(p0, .inr (7, oM p2 i7 j7)), ((p2 49), .inl (cI, 22, .inl (fun _ => 0))), ((p2 50), .inl (cI, 22, .inl (fun _ => 0))), ((p2 72), .inl (cI, 9216, .inl (fun _ => 0))), ((p2 14), .inl (cI, 2, .inl (fun _ => 0))), ((p2 18), .inl (cI, 2, .inl (fun _ => 0))), ((p2 51), .inl (cI, 22, .inl (fun _ => 0))), ((p2 52), .inl (cI, 22, .inl (fun _ => 0))), ((p2 28), .inl (cI, 2, .inl (upd (fun _ => 0) 0 (-1))))] := hD
    refine lv_if_ne (tgt := 11) hx hb dX7_ends_6 (by decide) (fun q9 => absurd q9 (by decide +kernel)) (fun _ => ?_)
    refine lv_iconst (v := (-1)) hx hb dX7_ends_9 (by decide +kernel) ?_
    exact k_ri B hP hD hS dX7_ends_10 (1, (fun _ => 0)) [0, 1, 2, 3, 4, 5, 6, 7, 8] rfl rfl rfl (Nat.le_of_ble_eq_true rfl) (Nat.le_of_ble_eq_true rfl) ⟨c_4, c_5, rfl⟩
  · obtain ⟨c_6, c_7, rfl⟩ : (0 ≤ p1.toInt) ∧ (p1.toInt ≤ 2) ∧ r_1 = 1 := hw
    have hP : va_P (dC, dI) vwCl [(p0, .inr (7, oM p2 i7 j7)), ((p2 49), .inl (cI, 22, .inl (fun _ => 0))), ((p2 50), .inl (cI, 22, .inl (fun _ => 0))), ((p2 72), .inl (cI, 9216, .inl (fun _ => 0))), ((p2 14), .inl (cI, 2, .inl (fun _ => 0))), ((p2 18), .inl (cI, 2, .inl (fun _ => 0))), ((p2 51), .inl (cI, 22, .inl (fun _ => 0))), ((p2 52), .inl (cI, 22, .inl (fun _ => 0))), ((p2 28), .inl (cI, 2, .inl (upd (fun _ => 0) 0 (-1))))] H := hP
    have hD : va_D A [(p0, .inr (7, oM p2 i7 j7)), ((p2 49), .inl (cI, 22, .inl (fun _ => 0))), ((p2 50), .inl (cI, 22, .inl (fun _ => 0))), ((p2 72), .inl (cI, 9216, .inl (fun _ => 0))), ((p2 14), .inl (cI, 2, .inl (fun _ => 0))), ((p2 18), .inl (cI, 2, .inl (fun _ => 0))), ((p2 51), .inl (cI, 22, .inl (fun _ => 0))), ((p2 52), .inl (cI, 22, .inl (fun _ => 0))), ((p2 28), .inl (cI, 2, .inl (upd (fun _ => 0) 0 (-1))))] := hD
    refine lv_if_ne (tgt := 11) hx hb dX7_ends_6 (by decide) (fun _ => ?_) (fun q9 => absurd q9 (by decide +kernel))
    refine lv_aload_n hx hb dX7_ends_11 rfl (lv_at hl 0 rfl) ?_
    refine lv_iconst (v := (-1)) hx hb dX7_ends_12 (by decide +kernel) ?_
    refine k_cv (wc := [(p0, .inr (7, oM p2 i7 j7)), ((p2 49), .inl (cI, 22, .inl (fun _ => 0))), ((p2 50), .inl (cI, 22, .inl (fun _ => 0))), ((p2 72), .inl (cI, 9216, .inl (fun _ => 0))), ((p2 14), .inl (cI, 2, .inl (fun _ => 0))), ((p2 18), .inl (cI, 2, .inl (fun _ => 0))), ((p2 51), .inl (cI, 22, .inl (fun _ => 0))), ((p2 52), .inl (cI, 22, .inl (fun _ => 0))), ((p2 28), .inl (cI, 2, .inl (upd (fun _ => 0) 0 (-1))))]) (wr := []) (fun hPc hDc hFc => va_runV (As := [.int (-1)]) (rest := []) ⟨hx, hb, hml, hown, hts⟩ (c_X7_finds_v1 l dC dI cI cJ cZ cM p0 p2 H.size) (cwV 1 hts gX7_ends_X7_finds rfl rfl rfl (by decide +kernel) ⟨(Nat.le_of_ble_eq_true rfl), (Nat.le_of_ble_eq_true rfl)⟩) (k_pV hPc hDc hK hN hC hS hFc hP (q0 := 0) (ci := 7) rfl rfl) rfl rfl hl.1 rfl (lv_room (Nat.le_of_ble_eq_true rfl)) dX7_ends_13 ⟨(Nat.le_of_ble_eq_true rfl), (Nat.le_of_ble_eq_true rfl)⟩) hP hD hS hA [0, 1, 2, 3, 4, 5, 6, 7, 8] [] rfl rfl rfl rfl (by decide) (fun _ => rfl) 0 0 rfl rfl (fun u_9 H locs hw hP hD hS => ?_)
    have hP : va_P (dC, dI) vwCl [(p0, .inr (7, oM p2 (upd (upd (upd (upd (upd (upd i7 62 0) 63 0) 64 0) 65 0) 66 (-1)) 75 (-1)) j7)), ((p2 49), .inl (cI, 22, .inl (fun _ => 0))), ((p2 50), .inl (cI, 22, .inl (fun _ => 0))), ((p2 72), .inl (cI, 9216, .inl (upd (fun _ => (-1)) 0 0))), ((p2 14), .inl (cI, 2, .inl (fun _ => 0))), ((p2 18), .inl (cI, 2, .inl (fun _ => 0))), ((p2 51), .inl (cI, 22, .inl (fun _ => 0))), ((p2 52), .inl (cI, 22, .inl (fun _ => 0))), ((p2 28), .inl (cI, 2, .inl (upd (fun _ => 0) 0 (-1))))] H := hP
    have hD : va_D A [(p0, .inr (7, oM p2 (upd (upd (upd (upd (upd (upd i7 62 0) 63 0) 64 0) 65 0) 66 (-1)) 75 (-1)) j7)), ((p2 49), .inl (cI, 22, .inl (fun _ => 0))), ((p2 50), .inl (cI, 22, .inl (fun _ => 0))), ((p2 72), .inl (cI, 9216, .inl (upd (fun _ => (-1)) 0 0))), ((p2 14), .inl (cI, 2, .inl (fun _ => 0))), ((p2 18), .inl (cI, 2, .inl (fun _ => 0))), ((p2 51), .inl (cI, 22, .inl (fun _ => 0))), ((p2 52), .inl (cI, 22, .inl (fun _ => 0))), ((p2 28), .inl (cI, 2, .inl (upd (fun _ => 0) 0 (-1))))] := hD
    refine lv_aload_n hx hb dX7_ends_16 rfl (lv_at hl 0 rfl) ?_
    refine k_get (D := (dC, dI)) (ci := 7) (v := .int (-1)) (C := RX7) (T := TX7) (N := 92) hx hb hts hinX7 hown hK hP 0 rfl rfl 75 (by decide) w_0 rfl rfl dX7_ends_17 ?_
    refine lv_iconst (v := (-1)) hx hb dX7_ends_20 (by decide +kernel) ?_
    refine lv_icmp_ne (tgt := 28) hx hb dX7_ends_21 (by decide) (fun q9 => absurd q9 (by decide +kernel)) (fun _ => ?_)
    refine lv_iconst (v := (-1)) hx hb dX7_ends_24 (by decide +kernel) ?_
    refine lv_goto (tgt := 55) hx hb dX7_ends_25 (by decide) ?_
    exact k_ri B hP hD hS dX7_ends_55 (2, (fun _ => 0)) [0, 1, 2, 3, 4, 5, 6, 7, 8] rfl rfl rfl (Nat.le_of_ble_eq_true rfl) (Nat.le_of_ble_eq_true rfl) ⟨c_6, c_7, rfl⟩
  · exact False.elim hw
set_option maxHeartbeats 4000000 in
set_option maxRecDepth 100000 in
theorem c_X6_falls_v0 (l : Launch) (dC : Nat → ClassId) (dI : Nat → Nat → Nat) (cI cJ cZ cM : ClassId) (p0 : Nat) (p1 : Nat → Nat)   : k_Mi l yX6_falls wsX6_falls ({ frames := 2, cells := 0, slots := 0, locals := 61 }) (dC, dI) vwCl (tyy cI cJ cZ cM) [(p0, .inr (6, [.ref (p1 0), .int 0, .ref (p1 1), .ref (p1 14), .ref (p1 27), .ref (p1 28), .ref (p1 29), .ref (p1 30), .ref (p1 54), .null, .int 1, .int 1, .int 999, .ref (p1 61), .ref (p1 62), .ref (p1 63), .ref (p1 60)])), ((p1 60), .inl (cI, 6, .inl (fun _ => 0)))] [.ref p0] 0 0 (fun (u9 : Unit) => [(p0, .inr (6, [.ref (p1 0), .int 0, .ref (p1 1), .ref (p1 14), .ref (p1 27), .ref (p1 28), .ref (p1 29), .ref (p1 30), .ref (p1 54), .null, .int 1, .int 1, .int 999, .ref (p1 61), .ref (p1 62), .ref (p1 63), .ref (p1 60)])), ((p1 60), .inl (cI, 6, .inl (upd (fun _ => 0) 5 1)))]) (fun (r9 : Int32) (u9 : Unit) => r9 = (-1)) := by
  refine fun sz => k_enter (cc := cX6_falls) (maxL := 5) (ret := some (.int)) (Qc := fun A => va_Qi (fun (r9 : Int32) (u9 : Unit) => r9 = (-1)) (fun u => k_B (dC, dI) vwCl (tyy cI cJ cZ cM) A ((fun (u9 : Unit) => [(p0, .inr (6, [.ref (p1 0), .int 0, .ref (p1 1), .ref (p1 14), .ref (p1 27), .ref (p1 28), .ref (p1 29), .ref (p1 30), .ref (p1 54), .null, .int 1, .int 1, .int 999, .ref (p1 61), .ref (p1 62), .ref (p1 63), .ref (p1 60)])), ((p1 60), .inl (cI, 6, .inl (upd (fun _ => 0) 5 1)))]) u)) A) sz (by decide +kernel) rfl (Nat.le_of_ble_eq_true rfl) (fun p e s m args below meth c A ls H locs B hP hD hS hl => ?_)
  obtain ⟨hx, hb, hml, hown, hts, hr, hlk, hnm, hK, hA, hN, hC⟩ := id B
  have hown : s.vm.findClass RX6 = some m.cls := hown
  have hl : lv_has ls 5 [(0, .ref p0)] := hl
  refine lv_aload_n hx hb dX6_falls_0 rfl (lv_at hl 0 rfl) ?_
  refine k_ci (wc := [(p0, .inr (6, [.ref (p1 0), .int 0, .ref (p1 1), .ref (p1 14), .ref (p1 27), .ref (p1 28), .ref (p1 29), .ref (p1 30), .ref (p1 54), .null, .int 1, .int 1, .int 999, .ref (p1 61), .ref (p1 62), .ref (p1 63), .ref (p1 60)]))]) (wr := [((p1 60), .inl (cI, 6, .inl (fun _ => 0)))]) (fun hPc hDc hFc => va_runV (As := []) (rest := []) ⟨hx, hb, hml, hown, hts⟩ (c_X6_takeTape_v0 l dC dI cI cJ cZ cM p0 p1 H.size) (cwV 0 hts gX6_falls_X6_takeTape rfl rfl rfl (by decide +kernel) ⟨(Nat.le_of_ble_eq_true rfl), (Nat.le_of_ble_eq_true rfl)⟩) (k_pV hPc hDc hK hN hC hS hFc hP (q0 := 0) (ci := 6) rfl rfl) rfl rfl hl.1 rfl (lv_room (Nat.le_of_ble_eq_true rfl)) dX6_falls_1 ⟨(Nat.le_of_ble_eq_true rfl), (Nat.le_of_ble_eq_true rfl)⟩) hP hD hS hA [0] [1] rfl rfl rfl rfl (by decide) (fun _ => rfl) 0 0 rfl rfl (fun r_1 u_2 H locs hw hP hD hS => ?_)
  obtain rfl : r_1 = 0 := hw
  have hP : va_P (dC, dI) vwCl [((p1 60), .inl (cI, 6, .inl (fun _ => 0))), (p0, .inr (6, [.ref (p1 0), .int 0, .ref (p1 1), .ref (p1 14), .ref (p1 27), .ref (p1 28), .ref (p1 29), .ref (p1 30), .ref (p1 54), .null, .int 1, .int 1, .int 999, .ref (p1 61), .ref (p1 62), .ref (p1 63), .ref (p1 60)]))] H := hP
  have hD : va_D A [((p1 60), .inl (cI, 6, .inl (fun _ => 0))), (p0, .inr (6, [.ref (p1 0), .int 0, .ref (p1 1), .ref (p1 14), .ref (p1 27), .ref (p1 28), .ref (p1 29), .ref (p1 30), .ref (p1 54), .null, .int 1, .int 1, .int 999, .ref (p1 61), .ref (p1 62), .ref (p1 63), .ref (p1 60)]))] := hD
  refine lv_istore_n (lv' := [(1, .int 0), (0, .ref p0)]) hx hb dX6_falls_4 rfl hl (by decide) rfl (fun ls hl => ?_)
  refine lv_iload_n hx hb dX6_falls_5 rfl (lv_at hl 0 rfl) ?_
  refine lv_iconst (v := 3) hx hb dX6_falls_6 (by decide +kernel) ?_
  refine lv_idiv hx hb dX6_falls_7 (by decide +kernel) ?_
  refine k_int (v := 0) (by decide +kernel) ?_
  refine lv_istore_n (lv' := [(2, .int 0), (1, .int 0), (0, .ref p0)]) hx hb dX6_falls_8 rfl hl (by decide) rfl (fun ls hl => ?_)
  refine lv_iload_n hx hb dX6_falls_9 rfl (lv_at hl 0 rfl) ?_
  refine lv_iconst (v := 1) hx hb dX6_falls_10 (by decide +kernel) ?_
  refine lv_icmp_lt (tgt := 35) hx hb dX6_falls_11 (by decide) (fun _ => ?_) (fun q9 => absurd q9 (by decide +kernel))
  refine lv_aload_n hx hb dX6_falls_35 rfl (lv_at hl 2 rfl) ?_
  refine lv_iconst (v := 5) hx hb dX6_falls_36 (by decide +kernel) ?_
  refine k_ci (wc := [(p0, .inr (6, [.ref (p1 0), .int 0, .ref (p1 1), .ref (p1 14), .ref (p1 27), .ref (p1 28), .ref (p1 29), .ref (p1 30), .ref (p1 54), .null, .int 1, .int 1, .int 999, .ref (p1 61), .ref (p1 62), .ref (p1 63), .ref (p1 60)])), ((p1 60), .inl (cI, 6, .inl (fun _ => 0)))]) (wr := []) (fun hPc hDc hFc => va_runV (As := [.int 5]) (rest := []) ⟨hx, hb, hml, hown, hts⟩ (c_X6_refuse_v4 l dC dI cI cJ cZ cM p0 p1 H.size) (cwV 1 hts gX6_falls_X6_refuse rfl rfl rfl (by decide +kernel) ⟨(Nat.le_of_ble_eq_true rfl), (Nat.le_of_ble_eq_true rfl)⟩) (k_pV hPc hDc hK hN hC hS hFc hP (q0 := 1) (ci := 6) rfl rfl) rfl rfl hl.1 rfl (lv_room (Nat.le_of_ble_eq_true rfl)) dX6_falls_37 ⟨(Nat.le_of_ble_eq_true rfl), (Nat.le_of_ble_eq_true rfl)⟩) hP hD hS hA [1, 0] [] rfl rfl rfl rfl (by decide) (fun _ => rfl) 0 0 rfl rfl (fun r_3 u_4 H locs hw hP hD hS => ?_)
  obtain rfl : r_3 = (-1) := hw
  have hP : va_P (dC, dI) vwCl [(p0, .inr (6, [.ref (p1 0), .int 0, .ref (p1 1), .ref (p1 14), .ref (p1 27), .ref (p1 28), .ref (p1 29), .ref (p1 30), .ref (p1 54), .null, .int 1, .int 1, .int 999, .ref (p1 61), .ref (p1 62), .ref (p1 63), .ref (p1 60)])), ((p1 60), .inl (cI, 6, .inl (upd (fun _ => 0) 5 1)))] H := hP
  have hD : va_D A [(p0, .inr (6, [.ref (p1 0), .int 0, .ref (p1 1), .ref (p1 14), .ref (p1 27), .ref (p1 28), .ref (p1 29), .ref (p1 30), .ref (p1 54), .null, .int 1, .int 1, .int 999, .ref (p1 61), .ref (p1 62), .ref (p1 63), .ref (p1 60)])), ((p1 60), .inl (cI, 6, .inl (upd (fun _ => 0) 5 1)))] := hD
  exact k_ri B hP hD hS dX6_falls_40 () [0, 1] rfl rfl rfl (Nat.le_of_ble_eq_true rfl) (Nat.le_of_ble_eq_true rfl) rfl
set_option maxHeartbeats 4000000 in
set_option maxRecDepth 100000 in
theorem c_X7_refuses_v5 (l : Launch) (dC : Nat → ClassId) (dI : Nat → Nat → Nat) (cI cJ cZ cM : ClassId) (p0 : Nat) (p1 : Nat → Nat)   : k_Mi l yX7_refuses wsX7_refuses ({ frames := 1, cells := 0, slots := 0, locals := 40 }) (dC, dI) vwCl (tyy cI cJ cZ cM) [(p0, .inr (7, oM p1 (upd i7 1 0) j7)), ((p1 48), .inl (cI, 6, .inl (fun _ => 0)))] [.ref p0, .int 5] 0 0 (fun (u9 : Unit) => [(p0, .inr (7, oM p1 (upd i7 1 0) j7)), ((p1 48), .inl (cI, 6, .inl (upd (fun _ => 0) 5 1)))]) (fun (r9 : Int32) (u9 : Unit) => r9 = (-1)) := by
  refine fun sz => k_enter (cc := cX7_refuses) (maxL := 2) (ret := some (.int)) (Qc := fun A => va_Qi (fun (r9 : Int32) (u9 : Unit) => r9 = (-1)) (fun u => k_B (dC, dI) vwCl (tyy cI cJ cZ cM) A ((fun (u9 : Unit) => [(p0, .inr (7, oM p1 (upd i7 1 0) j7)), ((p1 48), .inl (cI, 6, .inl (upd (fun _ => 0) 5 1)))]) u)) A) sz (by decide +kernel) rfl (Nat.le_of_ble_eq_true rfl) (fun p e s m args below meth c A ls H locs B hP hD hS hl => ?_)
  obtain ⟨hx, hb, hml, hown, hts, hr, hlk, hnm, hK, hA, hN, hC⟩ := id B
  have hown : s.vm.findClass RX7 = some m.cls := hown
  have hl : lv_has ls 2 [(0, .ref p0), (1, .int 5)] := hl
  have w_0 : (Cond.fieldLink RX7 159 "WishSeaModel" "refused" "[I").before args s = true := hts _ (List.mem_of_getElem? (i := 1) rfl)
  have hinX7 : ∀ w ∈ u_ws RX7 TX7 92, w ∈ wsX7_refuses := fun _ h => List.mem_cons_of_mem _ (List.mem_append_right _ h)
  refine lv_aload_n hx hb dX7_refuses_0 rfl (lv_at hl 0 rfl) ?_
  refine k_get (D := (dC, dI)) (ci := 7) (v := .ref (p1 48)) (C := RX7) (T := TX7) (N := 92) hx hb hts hinX7 hown hK hP 0 rfl rfl 48 (by decide) w_0 rfl rfl dX7_refuses_1 ?_
  refine lv_iload_n hx hb dX7_refuses_4 rfl (lv_at hl 1 rfl) ?_
  refine lv_dup2_11 hx hb dX7_refuses_5 rfl rfl ?_
  refine k_iald (v := 0) hx hb hK hP 1 0 5 rfl rfl rfl (Nat.le_of_ble_eq_true rfl) (Nat.le_of_ble_eq_true rfl) rfl dX7_refuses_6 ?_
  refine lv_iconst (v := 1) hx hb dX7_refuses_7 (by decide +kernel) ?_
  refine lv_iadd hx hb dX7_refuses_8 ?_
  refine k_int (v := 1) (by decide +kernel) ?_
  refine k_iast (g := (upd (fun _ => 0) 5 1)) (ws' := [(p0, .inr (7, oM p1 (upd i7 1 0) j7)), ((p1 48), .inl (cI, 6, .inl (upd (fun _ => 0) 5 1)))]) hx hb hK hP hD hS 1 0 5 rfl rfl rfl (Nat.le_of_ble_eq_true rfl) (Nat.le_of_ble_eq_true rfl) rfl rfl dX7_refuses_9 (fun H locs hP hD hS => ?_)
  refine lv_iconst (v := (-1)) hx hb dX7_refuses_10 (by decide +kernel) ?_
  exact k_ri B hP hD hS dX7_refuses_11 () [0, 1] rfl rfl rfl (Nat.le_of_ble_eq_true rfl) (Nat.le_of_ble_eq_true rfl) rfl
set_option maxHeartbeats 4000000 in
set_option maxRecDepth 100000 in
theorem c_X7_falls_v0 (l : Launch) (dC : Nat → ClassId) (dI : Nat → Nat → Nat) (cI cJ cZ cM : ClassId) (p0 : Nat) (p1 : Nat → Nat)   : k_Mi l yX7_falls wsX7_falls ({ frames := 2, cells := 0, slots := 0, locals := 61 }) (dC, dI) vwCl (tyy cI cJ cZ cM) [(p0, .inr (7, oM p1 i7 j7)), ((p1 48), .inl (cI, 6, .inl (fun _ => 0)))] [.ref p0] 0 0 (fun (u9 : Unit) => [(p0, .inr (7, oM p1 (upd i7 1 0) j7)), ((p1 48), .inl (cI, 6, .inl (upd (fun _ => 0) 5 1)))]) (fun (r9 : Int32) (u9 : Unit) => r9 = (-1)) := by
  refine fun sz => k_enter (cc := cX7_falls) (maxL := 4) (ret := some (.int)) (Qc := fun A => va_Qi (fun (r9 : Int32) (u9 : Unit) => r9 = (-1)) (fun u => k_B (dC, dI) vwCl (tyy cI cJ cZ cM) A ((fun (u9 : Unit) => [(p0, .inr (7, oM p1 (upd i7 1 0) j7)), ((p1 48), .inl (cI, 6, .inl (upd (fun _ => 0) 5 1)))]) u)) A) sz (by decide +kernel) rfl (Nat.le_of_ble_eq_true rfl) (fun p e s m args below meth c A ls H locs B hP hD hS hl => ?_)
  obtain ⟨hx, hb, hml, hown, hts, hr, hlk, hnm, hK, hA, hN, hC⟩ := id B
  have hown : s.vm.findClass RX7 = some m.cls := hown
  have hl : lv_has ls 4 [(0, .ref p0)] := hl
  have w_0 : (Cond.fieldLink RX7 13 "WishSeaModel" "taped" "I").before args s = true := hts _ (List.mem_of_getElem? (i := 1) rfl)
  have hinX7 : ∀ w ∈ u_ws RX7 TX7 92, w ∈ wsX7_falls := fun _ h => List.mem_cons_of_mem _ (List.mem_append_right _ h)
  refine lv_aload_n hx hb dX7_falls_0 rfl (lv_at hl 0 rfl) ?_
  refine k_get (D := (dC, dI)) (ci := 7) (v := .int 0) (C := RX7) (T := TX7) (N := 92) hx hb hts hinX7 hown hK hP 0 rfl rfl 1 (by decide) w_0 rfl rfl dX7_falls_1 ?_
  refine lv_istore_n (lv' := [(1, .int 0), (0, .ref p0)]) hx hb dX7_falls_4 rfl hl (by decide) rfl (fun ls hl => ?_)
  refine lv_aload_n hx hb dX7_falls_5 rfl (lv_at hl 1 rfl) ?_
  refine lv_iconst (v := 0) hx hb dX7_falls_6 (by decide +kernel) ?_
  refine k_put (D := (dC, dI)) (ci := 7) (v := .int 0) (C := RX7) (T := TX7) (N := 92) (ws' := [(p0, .inr (7, oM p1 (upd i7 1 0) j7)), ((p1 48), .inl (cI, 6, .inl (fun _ => 0)))]) hx hb hts hinX7 tyX7 tyX7_ok nmX7 hown hK hP hD hS 0 rfl rfl 1 (by decide) w_0 rfl rfl rfl rfl (Nat.le_of_ble_eq_true rfl) rfl dX7_falls_7 (fun H locs hP hD hS => ?_)
  refine lv_iload_n hx hb dX7_falls_10 rfl (lv_at hl 0 rfl) ?_
  refine lv_if_le (tgt := 30) hx hb dX7_falls_11 (by decide) (fun _ => ?_) (fun q9 => absurd q9 (by decide +kernel))
  refine lv_iconst (v := 0) hx hb dX7_falls_30 (by decide +kernel) ?_
  refine lv_istore_n (lv' := [(2, .int 0), (1, .int 0), (0, .ref p0)]) hx hb dX7_falls_31 rfl hl (by decide) rfl (fun ls hl => ?_)
  refine lv_iconst (v := 2) hx hb dX7_falls_32 (by decide +kernel) ?_
  refine lv_istore_n (lv' := [(3, .int 2), (2, .int 0), (1, .int 0), (0, .ref p0)]) hx hb dX7_falls_33 rfl hl (by decide) rfl (fun ls hl => ?_)
  refine lv_iload_n hx hb dX7_falls_34 rfl (lv_at hl 0 rfl) ?_
  refine lv_iload_n hx hb dX7_falls_35 rfl (lv_at hl 2 rfl) ?_
  refine lv_icmp_ge (tgt := 65) hx hb dX7_falls_36 (by decide) (fun _ => ?_) (fun q9 => absurd q9 (by decide +kernel))
  refine lv_iload_n hx hb dX7_falls_65 rfl (lv_at hl 1 rfl) ?_
  refine lv_if_ne (tgt := 75) hx hb dX7_falls_66 (by decide) (fun q9 => absurd q9 (by decide +kernel)) (fun _ => ?_)
  refine lv_aload_n hx hb dX7_falls_69 rfl (lv_at hl 3 rfl) ?_
  refine lv_iconst (v := 5) hx hb dX7_falls_70 (by decide +kernel) ?_
  refine k_ci (wc := [(p0, .inr (7, oM p1 (upd i7 1 0) j7)), ((p1 48), .inl (cI, 6, .inl (fun _ => 0)))]) (wr := []) (fun hPc hDc hFc => va_runV (As := [.int 5]) (rest := []) ⟨hx, hb, hml, hown, hts⟩ (c_X7_refuses_v5 l dC dI cI cJ cZ cM p0 p1 H.size) (cwV 1 hts gX7_falls_X7_refuses rfl rfl rfl (by decide +kernel) ⟨(Nat.le_of_ble_eq_true rfl), (Nat.le_of_ble_eq_true rfl)⟩) (k_pV hPc hDc hK hN hC hS hFc hP (q0 := 0) (ci := 7) rfl rfl) rfl rfl hl.1 rfl (lv_room (Nat.le_of_ble_eq_true rfl)) dX7_falls_71 ⟨(Nat.le_of_ble_eq_true rfl), (Nat.le_of_ble_eq_true rfl)⟩) hP hD hS hA [0, 1] [] rfl rfl rfl rfl (by decide) (fun _ => rfl) 0 0 rfl rfl (fun r_1 u_2 H locs hw hP hD hS => ?_)
  obtain rfl : r_1 = (-1) := hw
  have hP : va_P (dC, dI) vwCl [(p0, .inr (7, oM p1 (upd i7 1 0) j7)), ((p1 48), .inl (cI, 6, .inl (upd (fun _ => 0) 5 1)))] H := hP
  have hD : va_D A [(p0, .inr (7, oM p1 (upd i7 1 0) j7)), ((p1 48), .inl (cI, 6, .inl (upd (fun _ => 0) 5 1)))] := hD
  exact k_ri B hP hD hS dX7_falls_74 () [0, 1] rfl rfl rfl (Nat.le_of_ble_eq_true rfl) (Nat.le_of_ble_eq_true rfl) rfl
set_option maxHeartbeats 4000000 in
set_option maxRecDepth 100000 in
theorem c_X6_bearsFrom_v0 (l : Launch) (dC : Nat → ClassId) (dI : Nat → Nat → Nat) (cI cJ cZ cM : ClassId) (p0 : Nat) (p1 : Nat → Nat)   : k_Mi l yX6_bearsFrom wsX6_bearsFrom ({ frames := 1, cells := 0, slots := 0, locals := 40 }) (dC, dI) vwCl (tyy cI cJ cZ cM) [(p0, .inr (6, [.ref (p1 0), .int 0, .ref (p1 1), .ref (p1 14), .ref (p1 27), .ref (p1 28), .ref (p1 29), .ref (p1 30), .ref (p1 54), .null, .int 1, .int 1, .int 999, .ref (p1 61), .ref (p1 62), .ref (p1 63), .ref (p1 60)]))] [.ref p0, .int 1] 0 0 (fun (u9 : Unit) => [(p0, .inr (6, [.ref (p1 0), .int 0, .ref (p1 1), .ref (p1 14), .ref (p1 27), .ref (p1 28), .ref (p1 29), .ref (p1 30), .ref (p1 54), .null, .int 1, .int 1, .int 999, .ref (p1 61), .ref (p1 62), .ref (p1 63), .ref (p1 60)]))]) (fun (r9 : Int32) (u9 : Unit) => r9 = 999) := by
  refine fun sz => k_enter (cc := cX6_bearsFrom) (maxL := 2) (ret := some (.int)) (Qc := fun A => va_Qi (fun (r9 : Int32) (u9 : Unit) => r9 = 999) (fun u => k_B (dC, dI) vwCl (tyy cI cJ cZ cM) A ((fun (u9 : Unit) => [(p0, .inr (6, [.ref (p1 0), .int 0, .ref (p1 1), .ref (p1 14), .ref (p1 27), .ref (p1 28), .ref (p1 29), .ref (p1 30), .ref (p1 54), .null, .int 1, .int 1, .int 999, .ref (p1 61), .ref (p1 62), .ref (p1 63), .ref (p1 60)]))]) u)) A) sz (by decide +kernel) rfl (Nat.le_of_ble_eq_true rfl) (fun p e s m args below meth c A ls H locs B hP hD hS hl => ?_)
  obtain ⟨hx, hb, hml, hown, hts, hr, hlk, hnm, hK, hA, hN, hC⟩ := id B
  have hown : s.vm.findClass RX6 = some m.cls := hown
  have hl : lv_has ls 2 [(0, .ref p0), (1, .int 1)] := hl
  have w_0 : (Cond.fieldLink RX6 65 "WishSea" "mostBears" "I").before args s = true := hts _ (List.mem_of_getElem? (i := 1) rfl)
  have w_1 : (Cond.fieldLink RX6 62 "WishSea" "leastBears" "I").before args s = true := hts _ (List.mem_of_getElem? (i := 2) rfl)
  have w_2 : (Cond.methodLink RX6 255 Lib.Math.max.name).before args s = true := hts _ (List.mem_of_getElem? (i := 3) rfl)
  have w_3 : (Cond.static Lib.Math.max.name).before args s = true := hts _ (List.mem_of_getElem? (i := 4) rfl)
  have w_4 : (Cond.initialized "java/lang/Math").before args s = true := hts _ (List.mem_of_getElem? (i := 5) rfl)
  have w_5 : (Cond.code Lib.Math.max.name Lib.Math.max.code 2 (some .int)).before args s = true := hts _ (List.mem_of_getElem? (i := 6) rfl)
  have hinX6 : ∀ w ∈ u_ws RX6 TX6 17, w ∈ wsX6_bearsFrom := fun _ h => List.mem_cons_of_mem _ (List.mem_append_right _ h)
  refine lv_iconst (v := 0) hx hb dX6_bearsFrom_0 (by decide +kernel) ?_
  refine lv_aload_n hx hb dX6_bearsFrom_1 rfl (lv_at hl 0 rfl) ?_
  refine k_get (D := (dC, dI)) (ci := 6) (v := .int 999) (C := RX6) (T := TX6) (N := 17) hx hb hts hinX6 hown hK hP 0 rfl rfl 12 (by decide) w_0 rfl rfl dX6_bearsFrom_2 ?_
  refine lv_aload_n hx hb dX6_bearsFrom_5 rfl (lv_at hl 0 rfl) ?_
  refine k_get (D := (dC, dI)) (ci := 6) (v := .int 1) (C := RX6) (T := TX6) (N := 17) hx hb hts hinX6 hown hK hP 0 rfl rfl 11 (by decide) w_1 rfl rfl dX6_bearsFrom_6 ?_
  refine lv_iload_n hx hb dX6_bearsFrom_9 rfl (lv_at hl 1 rfl) ?_
  refine va_mmax hx hb (hml.trans hl.1.symm) hown w_2 w_3 w_4 w_5 (Nat.le_of_ble_eq_true rfl) (Nat.le_of_ble_eq_true rfl) (Nat.le_of_ble_eq_true rfl) (Nat.le_of_ble_eq_true rfl) dX6_bearsFrom_10 ?_
  refine k_int (v := 1) (by decide +kernel) ?_
  refine lv_isub hx hb dX6_bearsFrom_13 ?_
  refine k_int (v := 998) (by decide +kernel) ?_
  refine lv_iconst (v := 1) hx hb dX6_bearsFrom_14 (by decide +kernel) ?_
  refine lv_iadd hx hb dX6_bearsFrom_15 ?_
  refine k_int (v := 999) (by decide +kernel) ?_
  refine va_mmax hx hb (hml.trans hl.1.symm) hown w_2 w_3 w_4 w_5 (Nat.le_of_ble_eq_true rfl) (Nat.le_of_ble_eq_true rfl) (Nat.le_of_ble_eq_true rfl) (Nat.le_of_ble_eq_true rfl) dX6_bearsFrom_16 ?_
  refine k_int (v := 999) (by decide +kernel) ?_
  exact k_ri B hP hD hS dX6_bearsFrom_19 () [0] rfl rfl rfl (Nat.le_of_ble_eq_true rfl) (Nat.le_of_ble_eq_true rfl) rfl
set_option maxHeartbeats 4000000 in
set_option maxRecDepth 100000 in
theorem c_X6_bears_v0 (l : Launch) (dC : Nat → ClassId) (dI : Nat → Nat → Nat) (cI cJ cZ cM : ClassId) (p0 : Nat) (p1 : Int32) (p2 : Nat → Nat)   : k_Mi l yX6_bears wsX6_bears ({ frames := 2, cells := 0, slots := 0, locals := 61 }) (dC, dI) vwCl (tyy cI cJ cZ cM) [(p0, .inr (6, [.ref (p2 0), .int 0, .ref (p2 1), .ref (p2 14), .ref (p2 27), .ref (p2 28), .ref (p2 29), .ref (p2 30), .ref (p2 54), .null, .int 1, .int 1, .int 999, .ref (p2 61), .ref (p2 62), .ref (p2 63), .ref (p2 60)]))] [.ref p0, .int p1] 0 0 (fun (u9 : (Nat × (Nat → Nat))) => [(p0, .inr (6, [.ref (p2 0), .int 0, .ref (p2 1), .ref (p2 14), .ref (p2 27), .ref (p2 28), .ref (p2 29), .ref (p2 30), .ref (p2 54), .null, .int 1, .int 1, .int 999, .ref (p2 61), .ref (p2 62), .ref (p2 63), .ref (p2 60)]))]) (fun (r9 : Int32) (u9 : (Nat × (Nat → Nat))) => match u9.1 with | 0 => (p1.toInt = 0) ∧ r9 = 999 | 1 => (p1.toInt = 1) ∧ r9 = 1 | 2 => (p1.toInt = 2) ∧ r9 = 999 | 3 => (p1.toInt < 0 ∨ 2 < p1.toInt) ∧ r9 = (-1) | _ => False) := by
  refine fun sz => k_enter (cc := cX6_bears) (maxL := 3) (ret := some (.int)) (Qc := fun A => va_Qi (fun (r9 : Int32) (u9 : (Nat × (Nat → Nat))) => match u9.1 with | 0 => (p1.toInt = 0) ∧ r9 = 999 | 1 => (p1.toInt = 1) ∧ r9 = 1 | 2 => (p1.toInt = 2) ∧ r9 = 999 | 3 => (p1.toInt < 0 ∨ 2 < p1.toInt) ∧ r9 = (-1) | _ => False) (fun u => k_B (dC, dI) vwCl (tyy cI cJ cZ cM) A ((fun (u9 : (Nat × (Nat → Nat))) => [(p0, .inr (6, [.ref (p2 0), .int 0, .ref (p2 1), .ref (p2 14), .ref (p2 27), .ref (p2 28), .ref (p2 29), .ref (p2 30), .ref (p2 54), .null, .int 1, .int 1, .int 999, .ref (p2 61), .ref (p2 62), .ref (p2 63), .ref (p2 60)]))]) u)) A) sz (by decide +kernel) rfl (Nat.le_of_ble_eq_true rfl) (fun p e s m args below meth c A ls H locs B hP hD hS hl => ?_)
  obtain ⟨hx, hb, hml, hown, hts, hr, hlk, hnm, hK, hA, hN, hC⟩ := id B
  have hown : s.vm.findClass RX6 = some m.cls := hown
  have hl : lv_has ls 3 [(0, .ref p0), (1, .int p1)] := hl
  have w_0 : (Cond.fieldLink RX6 62 "WishSea" "leastBears" "I").before args s = true := hts _ (List.mem_of_getElem? (i := 1) rfl)
  have w_1 : (Cond.fieldLink RX6 65 "WishSea" "mostBears" "I").before args s = true := hts _ (List.mem_of_getElem? (i := 2) rfl)
  have hinX6 : ∀ w ∈ u_ws RX6 TX6 17, w ∈ wsX6_bears := fun _ h => List.mem_cons_of_mem _ (List.mem_append_right _ h)
  refine lv_aload_n hx hb dX6_bears_0 rfl (lv_at hl 0 rfl) ?_
  refine lv_aload_n hx hb dX6_bears_1 rfl (lv_at hl 0 rfl) ?_
  refine k_get (D := (dC, dI)) (ci := 6) (v := .int 1) (C := RX6) (T := TX6) (N := 17) hx hb hts hinX6 hown hK hP 0 rfl rfl 11 (by decide) w_0 rfl rfl dX6_bears_2 ?_
  refine k_ci (wc := [(p0, .inr (6, [.ref (p2 0), .int 0, .ref (p2 1), .ref (p2 14), .ref (p2 27), .ref (p2 28), .ref (p2 29), .ref (p2 30), .ref (p2 54), .null, .int 1, .int 1, .int 999, .ref (p2 61), .ref (p2 62), .ref (p2 63), .ref (p2 60)]))]) (wr := []) (fun hPc hDc hFc => va_runV (As := [.int 1]) (rest := []) ⟨hx, hb, hml, hown, hts⟩ (c_X6_bearsFrom_v0 l dC dI cI cJ cZ cM p0 p2 H.size) (cwV 1 hts gX6_bears_X6_bearsFrom rfl rfl rfl (by decide +kernel) ⟨(Nat.le_of_ble_eq_true rfl), (Nat.le_of_ble_eq_true rfl)⟩) (k_pV hPc hDc hK hN hC hS hFc hP (q0 := 0) (ci := 6) rfl rfl) rfl rfl hl.1 rfl (lv_room (Nat.le_of_ble_eq_true rfl)) dX6_bears_5 ⟨(Nat.le_of_ble_eq_true rfl), (Nat.le_of_ble_eq_true rfl)⟩) hP hD hS hA [0] [] rfl rfl rfl rfl (by decide) (fun _ => rfl) 0 0 rfl rfl (fun r_1 u_2 H locs hw hP hD hS => ?_)
  obtain rfl : r_1 = 999 := hw
  have hP : va_P (dC, dI) vwCl [(p0, .inr (6, [.ref (p2 0), .int 0, .ref (p2 1), .ref (p2 14), .ref (p2 27), .ref (p2 28), .ref (p2 29), .ref (p2 30), .ref (p2 54), .null, .int 1, .int 1, .int 999, .ref (p2 61), .ref (p2 62), .ref (p2 63), .ref (p2 60)]))] H := hP
  have hD : va_D A [(p0, .inr (6, [.ref (p2 0), .int 0, .ref (p2 1), .ref (p2 14), .ref (p2 27), .ref (p2 28), .ref (p2 29), .ref (p2 30), .ref (p2 54), .null, .int 1, .int 1, .int 999, .ref (p2 61), .ref (p2 62), .ref (p2 63), .ref (p2 60)]))] := hD
  refine lv_istore_n (lv' := [(2, .int 999), (0, .ref p0), (1, .int p1)]) hx hb dX6_bears_8 rfl hl (by decide) rfl (fun ls hl => ?_)
  refine lv_iload_n hx hb dX6_bears_9 rfl (lv_at hl 2 rfl) ?_
  rcases k_sw3 p1 with c_3 | c_3 | c_3 | c_3
  · have c_3 : p1.toInt = 0 := c_3
    refine lv_tableIn (off := 26) (tgt := 36) hx hb dX6_bears_10 (by rw [c_3]; decide) (by rw [c_3]; decide) (by rw [c_3]; decide +kernel) (by decide +kernel) ?_
    refine lv_iload_n hx hb dX6_bears_36 rfl (lv_at hl 0 rfl) ?_
    exact k_ri B hP hD hS dX6_bears_37 (0, (fun _ => 0)) [0] rfl rfl rfl (Nat.le_of_ble_eq_true rfl) (Nat.le_of_ble_eq_true rfl) ⟨c_3, rfl⟩
  · have c_3 : p1.toInt = 1 := c_3
    refine lv_tableIn (off := 28) (tgt := 38) hx hb dX6_bears_10 (by rw [c_3]; decide) (by rw [c_3]; decide) (by rw [c_3]; decide +kernel) (by decide +kernel) ?_
    refine lv_iload_n hx hb dX6_bears_38 rfl (lv_at hl 0 rfl) ?_
    refine lv_if_le (tgt := 49) hx hb dX6_bears_39 (by decide) (fun q9 => absurd q9 (by decide +kernel)) (fun _ => ?_)
    refine lv_aload_n hx hb dX6_bears_42 rfl (lv_at hl 1 rfl) ?_
    refine k_get (D := (dC, dI)) (ci := 6) (v := .int 1) (C := RX6) (T := TX6) (N := 17) hx hb hts hinX6 hown hK hP 0 rfl rfl 11 (by decide) w_0 rfl rfl dX6_bears_43 ?_
    refine lv_goto (tgt := 50) hx hb dX6_bears_46 (by decide) ?_
    exact k_ri B hP hD hS dX6_bears_50 (1, (fun _ => 0)) [0] rfl rfl rfl (Nat.le_of_ble_eq_true rfl) (Nat.le_of_ble_eq_true rfl) ⟨c_3, rfl⟩
  · have c_3 : p1.toInt = 2 := c_3
    refine lv_tableIn (off := 41) (tgt := 51) hx hb dX6_bears_10 (by rw [c_3]; decide) (by rw [c_3]; decide) (by rw [c_3]; decide +kernel) (by decide +kernel) ?_
    refine lv_iload_n hx hb dX6_bears_51 rfl (lv_at hl 0 rfl) ?_
    refine lv_if_le (tgt := 62) hx hb dX6_bears_52 (by decide) (fun q9 => absurd q9 (by decide +kernel)) (fun _ => ?_)
    refine lv_aload_n hx hb dX6_bears_55 rfl (lv_at hl 1 rfl) ?_
    refine k_get (D := (dC, dI)) (ci := 6) (v := .int 999) (C := RX6) (T := TX6) (N := 17) hx hb hts hinX6 hown hK hP 0 rfl rfl 12 (by decide) w_1 rfl rfl dX6_bears_56 ?_
    refine lv_goto (tgt := 63) hx hb dX6_bears_59 (by decide) ?_
    exact k_ri B hP hD hS dX6_bears_63 (2, (fun _ => 0)) [0] rfl rfl rfl (Nat.le_of_ble_eq_true rfl) (Nat.le_of_ble_eq_true rfl) ⟨c_3, rfl⟩
  · refine lv_tableOut (tgt := 64) hx hb dX6_bears_10 c_3 (by decide +kernel) ?_
    refine lv_iconst (v := (-1)) hx hb dX6_bears_64 (by decide +kernel) ?_
    exact k_ri B hP hD hS dX6_bears_65 (3, (fun _ => 0)) [0] rfl rfl rfl (Nat.le_of_ble_eq_true rfl) (Nat.le_of_ble_eq_true rfl) ⟨c_3, rfl⟩
set_option maxHeartbeats 4000000 in
set_option maxRecDepth 100000 in
theorem c_X7_is_v26 (l : Launch) (dC : Nat → ClassId) (dI : Nat → Nat → Nat) (cI cJ cZ cM : ClassId)    : k_Mi l yX7_is wsX7_is ({ frames := 1, cells := 0, slots := 0, locals := 40 }) (dC, dI) vwCl (tyy cI cJ cZ cM) [] [.int 0, .int 0, .int 2] 0 0 (fun (u9 : Unit) => []) (fun (r9 : Int32) (u9 : Unit) => r9 = 1) := by
  refine fun sz => k_enter (cc := cX7_is) (maxL := 3) (ret := some (.boolean)) (Qc := fun A => va_Qi (fun (r9 : Int32) (u9 : Unit) => r9 = 1) (fun u => k_B (dC, dI) vwCl (tyy cI cJ cZ cM) A ((fun (u9 : Unit) => []) u)) A) sz (by decide +kernel) rfl (Nat.le_of_ble_eq_true rfl) (fun p e s m args below meth c A ls H locs B hP hD hS hl => ?_)
  obtain ⟨hx, hb, hml, hown, hts, hr, hlk, hnm, hK, hA, hN, hC⟩ := id B
  have hown : s.vm.findClass RX7 = some m.cls := hown
  have hl : lv_has ls 3 [(0, .int 0), (1, .int 0), (2, .int 2)] := hl
  refine lv_iload_n hx hb dX7_is_0 rfl (lv_at hl 0 rfl) ?_
  refine lv_iload_n hx hb dX7_is_1 rfl (lv_at hl 1 rfl) ?_
  refine lv_icmp_lt (tgt := 14) hx hb dX7_is_2 (by decide) (fun q9 => absurd q9 (by decide +kernel)) (fun _ => ?_)
  refine lv_iload_n hx hb dX7_is_5 rfl (lv_at hl 0 rfl) ?_
  refine lv_iload_n hx hb dX7_is_6 rfl (lv_at hl 2 rfl) ?_
  refine lv_icmp_gt (tgt := 14) hx hb dX7_is_7 (by decide) (fun q9 => absurd q9 (by decide +kernel)) (fun _ => ?_)
  refine lv_iconst (v := 1) hx hb dX7_is_10 (by decide +kernel) ?_
  refine lv_goto (tgt := 15) hx hb dX7_is_11 (by decide) ?_
  exact k_ri B hP hD hS dX7_is_15 () [] rfl rfl rfl (Nat.le_of_ble_eq_true rfl) (Nat.le_of_ble_eq_true rfl) rfl
set_option maxHeartbeats 4000000 in
set_option maxRecDepth 100000 in
theorem c_X7_canBear_v0 (l : Launch) (dC : Nat → ClassId) (dI : Nat → Nat → Nat) (cI cJ cZ cM : ClassId) (p0 : Nat) (p1 : Nat → Nat)   : k_Mi l yX7_canBear wsX7_canBear ({ frames := 1, cells := 0, slots := 0, locals := 40 }) (dC, dI) vwCl (tyy cI cJ cZ cM) [(p0, .inr (7, oM p1 i7 j7))] [.ref p0, .int 1] 0 0 (fun (u9 : Unit) => [(p0, .inr (7, oM p1 i7 j7))]) (fun (r9 : Int32) (u9 : Unit) => r9 = 1) := by
  refine fun sz => k_enter (cc := cX7_canBear) (maxL := 3) (ret := some (.boolean)) (Qc := fun A => va_Qi (fun (r9 : Int32) (u9 : Unit) => r9 = 1) (fun u => k_B (dC, dI) vwCl (tyy cI cJ cZ cM) A ((fun (u9 : Unit) => [(p0, .inr (7, oM p1 i7 j7))]) u)) A) sz (by decide +kernel) rfl (Nat.le_of_ble_eq_true rfl) (fun p e s m args below meth c A ls H locs B hP hD hS hl => ?_)
  obtain ⟨hx, hb, hml, hown, hts, hr, hlk, hnm, hK, hA, hN, hC⟩ := id B
  have hown : s.vm.findClass RX7 = some m.cls := hown
  have hl : lv_has ls 3 [(0, .ref p0), (1, .int 1)] := hl
  have w_0 : (Cond.fieldLink RX7 246 "WishSeaModel" "fallMany" "I").before args s = true := hts _ (List.mem_of_getElem? (i := 1) rfl)
  have hinX7 : ∀ w ∈ u_ws RX7 TX7 92, w ∈ wsX7_canBear := fun _ h => List.mem_cons_of_mem _ (List.mem_append_right _ h)
  refine lv_iconst (v := 0) hx hb dX7_canBear_0 (by decide +kernel) ?_
  refine lv_istore_n (lv' := [(2, .int 0), (0, .ref p0), (1, .int 1)]) hx hb dX7_canBear_1 rfl hl (by decide) rfl (fun ls hl => ?_)
  refine lv_iload_n hx hb dX7_canBear_2 rfl (lv_at hl 0 rfl) ?_
  refine lv_aload_n hx hb dX7_canBear_3 rfl (lv_at hl 1 rfl) ?_
  refine k_get (D := (dC, dI)) (ci := 7) (v := .int 0) (C := RX7) (T := TX7) (N := 92) hx hb hts hinX7 hown hK hP 0 rfl rfl 77 (by decide) w_0 rfl rfl dX7_canBear_4 ?_
  refine lv_icmp_ge (tgt := 42) hx hb dX7_canBear_7 (by decide) (fun _ => ?_) (fun q9 => absurd q9 (by decide +kernel))
  refine lv_iconst (v := 1) hx hb dX7_canBear_42 (by decide +kernel) ?_
  exact k_ri B hP hD hS dX7_canBear_43 () [0] rfl rfl rfl (Nat.le_of_ble_eq_true rfl) (Nat.le_of_ble_eq_true rfl) rfl
set_option maxHeartbeats 4000000 in
set_option maxRecDepth 100000 in
theorem c_X7_canBear_v1 (l : Launch) (dC : Nat → ClassId) (dI : Nat → Nat → Nat) (cI cJ cZ cM : ClassId) (p0 : Nat) (p1 : Nat) (p2 : Nat → Nat) (b_0 : 0 ≤ (((p1 + 1) : Nat) : Int)) (t_0 : (((p1 + 1) : Nat) : Int) ≤ 999)  : k_Mi l yX7_canBear wsX7_canBear ({ frames := 1, cells := 0, slots := 0, locals := 40 }) (dC, dI) vwCl (tyy cI cJ cZ cM) [(p0, .inr (7, oM p2 i7 j7))] [.ref p0, .int (nI (p1 + 1))] 0 0 (fun (u9 : Unit) => [(p0, .inr (7, oM p2 i7 j7))]) (fun (r9 : Int32) (u9 : Unit) => r9 = 1) := by
  refine fun sz => k_enter (cc := cX7_canBear) (maxL := 3) (ret := some (.boolean)) (Qc := fun A => va_Qi (fun (r9 : Int32) (u9 : Unit) => r9 = 1) (fun u => k_B (dC, dI) vwCl (tyy cI cJ cZ cM) A ((fun (u9 : Unit) => [(p0, .inr (7, oM p2 i7 j7))]) u)) A) sz (by decide +kernel) rfl (Nat.le_of_ble_eq_true rfl) (fun p e s m args below meth c A ls H locs B hP hD hS hl => ?_)
  obtain ⟨hx, hb, hml, hown, hts, hr, hlk, hnm, hK, hA, hN, hC⟩ := id B
  have hown : s.vm.findClass RX7 = some m.cls := hown
  have hl : lv_has ls 3 [(0, .ref p0), (1, .int (nI (p1 + 1)))] := hl
  have w_0 : (Cond.fieldLink RX7 246 "WishSeaModel" "fallMany" "I").before args s = true := hts _ (List.mem_of_getElem? (i := 1) rfl)
  have hinX7 : ∀ w ∈ u_ws RX7 TX7 92, w ∈ wsX7_canBear := fun _ h => List.mem_cons_of_mem _ (List.mem_append_right _ h)
  refine lv_iconst (v := 0) hx hb dX7_canBear_0 (by decide +kernel) ?_
  refine lv_istore_n (lv' := [(2, .int 0), (0, .ref p0), (1, .int (nI (p1 + 1)))]) hx hb dX7_canBear_1 rfl hl (by decide) rfl (fun ls hl => ?_)
  refine lv_iload_n hx hb dX7_canBear_2 rfl (lv_at hl 0 rfl) ?_
  refine lv_aload_n hx hb dX7_canBear_3 rfl (lv_at hl 1 rfl) ?_
  refine k_get (D := (dC, dI)) (ci := 7) (v := .int 0) (C := RX7) (T := TX7) (N := 92) hx hb hts hinX7 hown hK hP 0 rfl rfl 77 (by decide) w_0 rfl rfl dX7_canBear_4 ?_
  refine lv_icmp_ge (tgt := 42) hx hb dX7_canBear_7 (by decide) (fun _ => ?_) (fun q9 => absurd q9 (by decide +kernel))
  refine lv_iconst (v := 1) hx hb dX7_canBear_42 (by decide +kernel) ?_
  exact k_ri B hP hD hS dX7_canBear_43 () [0] rfl rfl rfl (Nat.le_of_ble_eq_true rfl) (Nat.le_of_ble_eq_true rfl) rfl
set_option maxHeartbeats 4000000 in
set_option maxRecDepth 100000 in
theorem c_X7_bears_v0 (l : Launch) (dC : Nat → ClassId) (dI : Nat → Nat → Nat) (cI cJ cZ cM : ClassId) (p0 : Nat) (p1 : Int32) (p2 : Nat → Nat) (b_0 : 0 ≤ p1.toInt) (t_0 : p1.toInt ≤ 0)  : k_Mi l yX7_bears wsX7_bears ({ frames := 2, cells := 0, slots := 0, locals := 62 }) (dC, dI) vwCl (tyy cI cJ cZ cM) [(p0, .inr (7, oM p2 i7 j7))] [.ref p0, .int p1] 0 0 (fun (u9 : Unit) => [(p0, .inr (7, oM p2 i7 j7))]) (fun (r9 : Int32) (u9 : Unit) => r9 = 999) := by
  refine fun sz => k_enter (cc := cX7_bears) (maxL := 6) (ret := some (.int)) (Qc := fun A => va_Qi (fun (r9 : Int32) (u9 : Unit) => r9 = 999) (fun u => k_B (dC, dI) vwCl (tyy cI cJ cZ cM) A ((fun (u9 : Unit) => [(p0, .inr (7, oM p2 i7 j7))]) u)) A) sz (by decide +kernel) rfl (Nat.le_of_ble_eq_true rfl) (fun p e s m args below meth c A ls H locs B hP hD hS hl => ?_)
  obtain ⟨hx, hb, hml, hown, hts, hr, hlk, hnm, hK, hA, hN, hC⟩ := id B
  have hown : s.vm.findClass RX7 = some m.cls := hown
  have hl : lv_has ls 6 [(0, .ref p0), (1, .int p1)] := hl
  rcases (show p1.toInt = 0 by omega) with c_1
  obtain rfl : p1 = 0 := k_eqL (by decide +kernel) c_1
  refine lv_iload_n hx hb dX7_bears_0 rfl (lv_at hl 1 rfl) ?_
  refine lv_iconst (v := 0) hx hb dX7_bears_1 (by decide +kernel) ?_
  refine lv_iconst (v := 2) hx hb dX7_bears_2 (by decide +kernel) ?_
  refine k_ci (wc := []) (wr := [(p0, .inr (7, oM p2 i7 j7))]) (fun hPc hDc hFc => va_runS (As := [.int 0, .int 0, .int 2]) (rest := []) ⟨hx, hb, hml, hown, hts⟩ (c_X7_is_v26 l dC dI cI cJ cZ cM H.size) (va_cwS 3 hts gX7_bears_X7_is rfl rfl rfl (by decide +kernel) ⟨(Nat.le_of_ble_eq_true rfl), (Nat.le_of_ble_eq_true rfl)⟩) (k_pS hPc hDc hK hN hC hS hFc) rfl rfl hl.1 rfl (lv_room (Nat.le_of_ble_eq_true rfl)) dX7_bears_3 ⟨(Nat.le_of_ble_eq_true rfl), (Nat.le_of_ble_eq_true rfl)⟩) hP hD hS hA [] [0] rfl rfl rfl rfl (by decide) (fun _ => rfl) 0 0 rfl rfl (fun r_2 u_3 H locs hw hP hD hS => ?_)
  obtain rfl : r_2 = 1 := hw
  have hP : va_P (dC, dI) vwCl [(p0, .inr (7, oM p2 i7 j7))] H := hP
  have hD : va_D A [(p0, .inr (7, oM p2 i7 j7))] := hD
  refine lv_if_ne (tgt := 11) hx hb dX7_bears_6 (by decide) (fun _ => ?_) (fun q9 => absurd q9 (by decide +kernel))
  refine lv_iconst (v := 0) hx hb dX7_bears_11 (by decide +kernel) ?_
  refine lv_istore_n (lv' := [(2, .int 0), (0, .ref p0), (1, .int 0)]) hx hb dX7_bears_12 rfl hl (by decide) rfl (fun ls hl => ?_)
  refine lv_iconst (v := (-1)) hx hb dX7_bears_13 (by decide +kernel) ?_
  refine lv_istore_n (lv' := [(3, .int (-1)), (2, .int 0), (0, .ref p0), (1, .int 0)]) hx hb dX7_bears_14 rfl hl (by decide) rfl (fun ls hl => ?_)
  refine lv_iconst (v := (-1)) hx hb dX7_bears_15 (by decide +kernel) ?_
  refine lv_istore (lv' := [(4, .int (-1)), (3, .int (-1)), (2, .int 0), (0, .ref p0), (1, .int 0)]) hx hb dX7_bears_16 hl (by decide) rfl (fun ls hl => ?_)
  refine lv_iconst (v := 1) hx hb dX7_bears_18 (by decide +kernel) ?_
  refine lv_istore (lv' := [(5, .int 1), (4, .int (-1)), (3, .int (-1)), (2, .int 0), (0, .ref p0), (1, .int 0)]) hx hb dX7_bears_19 hl (by decide) rfl (fun ls hl => ?_)
  refine lv_iload hx hb dX7_bears_21 (lv_at hl 0 rfl) ?_
  refine lv_sipush (v := 999) hx hb dX7_bears_23 (by decide +kernel) ?_
  refine lv_icmp_gt (tgt := 66) hx hb dX7_bears_26 (by decide) (fun q9 => absurd q9 (by decide +kernel)) (fun _ => ?_)
  refine lv_aload_n hx hb dX7_bears_29 rfl (lv_at hl 4 rfl) ?_
  refine lv_iload hx hb dX7_bears_30 (lv_at hl 0 rfl) ?_
  refine k_ci (wc := [(p0, .inr (7, oM p2 i7 j7))]) (wr := []) (fun hPc hDc hFc => va_runV (As := [.int 1]) (rest := []) ⟨hx, hb, hml, hown, hts⟩ (c_X7_canBear_v0 l dC dI cI cJ cZ cM p0 p2 H.size) (cwV 1 hts gX7_bears_X7_canBear rfl rfl rfl (by decide +kernel) ⟨(Nat.le_of_ble_eq_true rfl), (Nat.le_of_ble_eq_true rfl)⟩) (k_pV hPc hDc hK hN hC hS hFc hP (q0 := 0) (ci := 7) rfl rfl) rfl rfl hl.1 rfl (lv_room (Nat.le_of_ble_eq_true rfl)) dX7_bears_32 ⟨(Nat.le_of_ble_eq_true rfl), (Nat.le_of_ble_eq_true rfl)⟩) hP hD hS hA [0] [] rfl rfl rfl rfl (by decide) (fun _ => rfl) 0 0 rfl rfl (fun r_4 u_5 H locs hw hP hD hS => ?_)
  obtain rfl : r_4 = 1 := hw
  have hP : va_P (dC, dI) vwCl [(p0, .inr (7, oM p2 i7 j7))] H := hP
  have hD : va_D A [(p0, .inr (7, oM p2 i7 j7))] := hD
  refine lv_if_ne (tgt := 41) hx hb dX7_bears_35 (by decide) (fun _ => ?_) (fun q9 => absurd q9 (by decide +kernel))
  refine lv_iinc (v := 1) (lv' := [(2, .int 1), (5, .int 1), (4, .int (-1)), (3, .int (-1)), (0, .ref p0), (1, .int 0)]) hx hb dX7_bears_41 hl (k := 3) rfl (by decide +kernel) (by decide) rfl (fun ls hl => ?_)
  refine lv_iload_n hx hb dX7_bears_44 rfl (lv_at hl 3 rfl) ?_
  refine lv_iconst (v := (-1)) hx hb dX7_bears_45 (by decide +kernel) ?_
  refine lv_icmp_ne (tgt := 54) hx hb dX7_bears_46 (by decide) (fun q9 => absurd q9 (by decide +kernel)) (fun _ => ?_)
  refine lv_iload hx hb dX7_bears_49 (lv_at hl 1 rfl) ?_
  refine lv_goto (tgt := 55) hx hb dX7_bears_51 (by decide) ?_
  refine lv_istore_n (lv' := [(3, .int 1), (2, .int 1), (5, .int 1), (4, .int (-1)), (0, .ref p0), (1, .int 0)]) hx hb dX7_bears_55 rfl hl (by decide) rfl (fun ls hl => ?_)
  refine lv_iload hx hb dX7_bears_56 (lv_at hl 2 rfl) ?_
  refine lv_istore (lv' := [(4, .int 1), (3, .int 1), (2, .int 1), (5, .int 1), (0, .ref p0), (1, .int 0)]) hx hb dX7_bears_58 hl (by decide) rfl (fun ls hl => ?_)
  refine lv_iinc (v := 2) (lv' := [(5, .int 2), (4, .int 1), (3, .int 1), (2, .int 1), (0, .ref p0), (1, .int 0)]) hx hb dX7_bears_60 hl (k := 3) rfl (by decide +kernel) (by decide) rfl (fun ls hl => ?_)
  refine lv_goto (tgt := 21) hx hb dX7_bears_63 (by decide) ?_
  have loop_k_6 : ∀ (n_k_6 : Nat) (kk_6 : Nat) (h1k_6 : 1 ≤ kk_6) (h2k_6 : kk_6 ≤ 999) (hn_k_6 : 999 - kk_6 < n_k_6) (H : Heap) (locs : List Loc) (ls : Array Slot), va_P (dC, dI) vwCl [(p0, .inr (7, oM p2 i7 j7))] H → va_D A [(p0, .inr (7, oM p2 i7 j7))] → va_S A s.heap H locs → lv_has ls 6 [(5, .int (nI (kk_6 + 1))), (4, .int (nI kk_6)), (3, .int 1), (2, .int (nI kk_6)), (0, .ref p0), (1, .int 0)] → W p l e ({ frames := 2, cells := 0, slots := 0, locals := 62 }) s m args below meth c H locs 0 0 (MQ below (va_Qi (fun (r9 : Int32) (u9 : Unit) => r9 = 999) (fun u => k_B (dC, dI) vwCl (tyy cI cJ cZ cM) A ((fun (u9 : Unit) => [(p0, .inr (7, oM p2 i7 j7))]) u)) A) args s 0 0 A) (F0 m 21 ls []) := by
    intro n_k_6
    induction n_k_6 with
    | zero => intro kk_6 h1k_6 h2k_6 hn_k_6; exact absurd hn_k_6 (Nat.not_lt_zero _)
    | succ n_k_6 ih_k_6 =>
      intro kk_6 h1k_6 h2k_6 hn_k_6 H locs ls hP hD hS hl
      refine lv_iload hx hb dX7_bears_21 (lv_at hl 0 rfl) ?_
      refine lv_sipush (v := 999) hx hb dX7_bears_23 (by decide +kernel) ?_
      refine lv_icmp_gt (tgt := 66) hx hb dX7_bears_26 (by decide) (fun c_7 => ?_) (fun c_7 => ?_)
      · have c_7 : 999 < (((kk_6 + 1) : Nat) : Int) := k_ltT (by decide +kernel) (nI_toInt (by omega)) c_7
        obtain rfl : kk_6 = 999 := by omega
        have hl : lv_has ls 6 [(5, .int 1000), (4, .int 999), (3, .int 1), (2, .int 999), (0, .ref p0), (1, .int 0)] := hl
        have hP : va_P (dC, dI) vwCl [(p0, .inr (7, oM p2 i7 j7))] H := hP
        have hD : va_D A [(p0, .inr (7, oM p2 i7 j7))] := hD
        refine lv_iload_n hx hb dX7_bears_66 rfl (lv_at hl 5 rfl) ?_
        refine lv_if_ne (tgt := 74) hx hb dX7_bears_67 (by decide) (fun q9 => absurd q9 (by decide +kernel)) (fun _ => ?_)
        refine lv_iload_n hx hb dX7_bears_70 rfl (lv_at hl 3 rfl) ?_
        refine lv_goto (tgt := 85) hx hb dX7_bears_71 (by decide) ?_
        exact k_ri B hP hD hS dX7_bears_85 () [0] rfl rfl rfl (Nat.le_of_ble_eq_true rfl) (Nat.le_of_ble_eq_true rfl) rfl
      · have c_7 : (((kk_6 + 1) : Nat) : Int) ≤ 999 := k_ltF (by decide +kernel) (nI_toInt (by omega)) c_7
        refine lv_aload_n hx hb dX7_bears_29 rfl (lv_at hl 4 rfl) ?_
        refine lv_iload hx hb dX7_bears_30 (lv_at hl 0 rfl) ?_
        refine k_ci (wc := [(p0, .inr (7, oM p2 i7 j7))]) (wr := []) (fun hPc hDc hFc => va_runV (As := [.int (nI (kk_6 + 1))]) (rest := []) ⟨hx, hb, hml, hown, hts⟩ (c_X7_canBear_v1 l dC dI cI cJ cZ cM p0 kk_6 p2 (by omega) (by omega) H.size) (cwV 1 hts gX7_bears_X7_canBear rfl rfl rfl (by decide +kernel) ⟨(Nat.le_of_ble_eq_true rfl), (Nat.le_of_ble_eq_true rfl)⟩) (k_pV hPc hDc hK hN hC hS hFc hP (q0 := 0) (ci := 7) rfl rfl) rfl rfl hl.1 rfl (lv_room (Nat.le_of_ble_eq_true rfl)) dX7_bears_32 ⟨(Nat.le_of_ble_eq_true rfl), (Nat.le_of_ble_eq_true rfl)⟩) hP hD hS hA [0] [] rfl rfl rfl rfl (by decide) (fun _ => rfl) 0 0 rfl rfl (fun r_8 u_9 H locs hw hP hD hS => ?_)
        obtain rfl : r_8 = 1 := hw
        have hP : va_P (dC, dI) vwCl [(p0, .inr (7, oM p2 i7 j7))] H := hP
        have hD : va_D A [(p0, .inr (7, oM p2 i7 j7))] := hD
        refine lv_if_ne (tgt := 41) hx hb dX7_bears_35 (by decide) (fun _ => ?_) (fun q9 => absurd q9 (by decide +kernel))
        refine lv_iinc (v := (nI (kk_6 + 1))) (lv' := [(2, .int (nI (kk_6 + 1))), (5, .int (nI (kk_6 + 1))), (4, .int (nI kk_6)), (3, .int 1), (0, .ref p0), (1, .int 0)]) hx hb dX7_bears_41 hl (k := 3) rfl (nI_1 _) (by decide) rfl (fun ls hl => ?_)
        refine lv_iload_n hx hb dX7_bears_44 rfl (lv_at hl 3 rfl) ?_
        refine lv_iconst (v := (-1)) hx hb dX7_bears_45 (by decide +kernel) ?_
        refine lv_icmp_ne (tgt := 54) hx hb dX7_bears_46 (by decide) (fun _ => ?_) (fun q9 => absurd q9 (by decide +kernel))
        refine lv_iload_n hx hb dX7_bears_54 rfl (lv_at hl 3 rfl) ?_
        refine lv_istore_n (lv' := [(3, .int 1), (2, .int (nI (kk_6 + 1))), (5, .int (nI (kk_6 + 1))), (4, .int (nI kk_6)), (0, .ref p0), (1, .int 0)]) hx hb dX7_bears_55 rfl hl (by decide) rfl (fun ls hl => ?_)
        refine lv_iload hx hb dX7_bears_56 (lv_at hl 2 rfl) ?_
        refine lv_istore (lv' := [(4, .int (nI (kk_6 + 1))), (3, .int 1), (2, .int (nI (kk_6 + 1))), (5, .int (nI (kk_6 + 1))), (0, .ref p0), (1, .int 0)]) hx hb dX7_bears_58 hl (by decide) rfl (fun ls hl => ?_)
        refine lv_iinc (v := (nI ((kk_6 + 1) + 1))) (lv' := [(5, .int (nI ((kk_6 + 1) + 1))), (4, .int (nI (kk_6 + 1))), (3, .int 1), (2, .int (nI (kk_6 + 1))), (0, .ref p0), (1, .int 0)]) hx hb dX7_bears_60 hl (k := 3) rfl (nI_1 _) (by decide) rfl (fun ls hl => ?_)
        refine lv_goto (tgt := 21) hx hb dX7_bears_63 (by decide) ?_
        exact ih_k_6 (kk_6 + 1) (by omega) (by omega) (by omega) H locs ls (hP.sub [0] rfl) (hD.sub [0] (by decide) rfl) hS (lv_sub hl [0, 1, 2, 3, 4, 5] rfl)
  exact loop_k_6 _ 1 (by omega) (by omega) (Nat.lt_succ_self _) H locs ls hP hD hS hl
set_option maxHeartbeats 4000000 in
set_option maxRecDepth 100000 in
theorem c_X7_is_v27 (l : Launch) (dC : Nat → ClassId) (dI : Nat → Nat → Nat) (cI cJ cZ cM : ClassId)    : k_Mi l yX7_is wsX7_is ({ frames := 1, cells := 0, slots := 0, locals := 40 }) (dC, dI) vwCl (tyy cI cJ cZ cM) [] [.int 1, .int 0, .int 2] 0 0 (fun (u9 : Unit) => []) (fun (r9 : Int32) (u9 : Unit) => r9 = 1) := by
  refine fun sz => k_enter (cc := cX7_is) (maxL := 3) (ret := some (.boolean)) (Qc := fun A => va_Qi (fun (r9 : Int32) (u9 : Unit) => r9 = 1) (fun u => k_B (dC, dI) vwCl (tyy cI cJ cZ cM) A ((fun (u9 : Unit) => []) u)) A) sz (by decide +kernel) rfl (Nat.le_of_ble_eq_true rfl) (fun p e s m args below meth c A ls H locs B hP hD hS hl => ?_)
  obtain ⟨hx, hb, hml, hown, hts, hr, hlk, hnm, hK, hA, hN, hC⟩ := id B
  have hown : s.vm.findClass RX7 = some m.cls := hown
  have hl : lv_has ls 3 [(0, .int 1), (1, .int 0), (2, .int 2)] := hl
  refine lv_iload_n hx hb dX7_is_0 rfl (lv_at hl 0 rfl) ?_
  refine lv_iload_n hx hb dX7_is_1 rfl (lv_at hl 1 rfl) ?_
  refine lv_icmp_lt (tgt := 14) hx hb dX7_is_2 (by decide) (fun q9 => absurd q9 (by decide +kernel)) (fun _ => ?_)
  refine lv_iload_n hx hb dX7_is_5 rfl (lv_at hl 0 rfl) ?_
  refine lv_iload_n hx hb dX7_is_6 rfl (lv_at hl 2 rfl) ?_
  refine lv_icmp_gt (tgt := 14) hx hb dX7_is_7 (by decide) (fun q9 => absurd q9 (by decide +kernel)) (fun _ => ?_)
  refine lv_iconst (v := 1) hx hb dX7_is_10 (by decide +kernel) ?_
  refine lv_goto (tgt := 15) hx hb dX7_is_11 (by decide) ?_
  exact k_ri B hP hD hS dX7_is_15 () [] rfl rfl rfl (Nat.le_of_ble_eq_true rfl) (Nat.le_of_ble_eq_true rfl) rfl
set_option maxHeartbeats 4000000 in
set_option maxRecDepth 100000 in
theorem c_X7_bears_v1 (l : Launch) (dC : Nat → ClassId) (dI : Nat → Nat → Nat) (cI cJ cZ cM : ClassId) (p0 : Nat) (p1 : Int32) (p2 : Nat → Nat) (b_0 : 1 ≤ p1.toInt) (t_0 : p1.toInt ≤ 1)  : k_Mi l yX7_bears wsX7_bears ({ frames := 2, cells := 0, slots := 0, locals := 62 }) (dC, dI) vwCl (tyy cI cJ cZ cM) [(p0, .inr (7, oM p2 i7 j7))] [.ref p0, .int p1] 0 0 (fun (u9 : Unit) => [(p0, .inr (7, oM p2 i7 j7))]) (fun (r9 : Int32) (u9 : Unit) => r9 = 1) := by
  refine fun sz => k_enter (cc := cX7_bears) (maxL := 6) (ret := some (.int)) (Qc := fun A => va_Qi (fun (r9 : Int32) (u9 : Unit) => r9 = 1) (fun u => k_B (dC, dI) vwCl (tyy cI cJ cZ cM) A ((fun (u9 : Unit) => [(p0, .inr (7, oM p2 i7 j7))]) u)) A) sz (by decide +kernel) rfl (Nat.le_of_ble_eq_true rfl) (fun p e s m args below meth c A ls H locs B hP hD hS hl => ?_)
  obtain ⟨hx, hb, hml, hown, hts, hr, hlk, hnm, hK, hA, hN, hC⟩ := id B
  have hown : s.vm.findClass RX7 = some m.cls := hown
  have hl : lv_has ls 6 [(0, .ref p0), (1, .int p1)] := hl
  rcases (show p1.toInt = 1 by omega) with c_1
  obtain rfl : p1 = 1 := k_eqL (by decide +kernel) c_1
  refine lv_iload_n hx hb dX7_bears_0 rfl (lv_at hl 1 rfl) ?_
  refine lv_iconst (v := 0) hx hb dX7_bears_1 (by decide +kernel) ?_
  refine lv_iconst (v := 2) hx hb dX7_bears_2 (by decide +kernel) ?_
  refine k_ci (wc := []) (wr := [(p0, .inr (7, oM p2 i7 j7))]) (fun hPc hDc hFc => va_runS (As := [.int 1, .int 0, .int 2]) (rest := []) ⟨hx, hb, hml, hown, hts⟩ (c_X7_is_v27 l dC dI cI cJ cZ cM H.size) (va_cwS 3 hts gX7_bears_X7_is rfl rfl rfl (by decide +kernel) ⟨(Nat.le_of_ble_eq_true rfl), (Nat.le_of_ble_eq_true rfl)⟩) (k_pS hPc hDc hK hN hC hS hFc) rfl rfl hl.1 rfl (lv_room (Nat.le_of_ble_eq_true rfl)) dX7_bears_3 ⟨(Nat.le_of_ble_eq_true rfl), (Nat.le_of_ble_eq_true rfl)⟩) hP hD hS hA [] [0] rfl rfl rfl rfl (by decide) (fun _ => rfl) 0 0 rfl rfl (fun r_2 u_3 H locs hw hP hD hS => ?_)
  obtain rfl : r_2 = 1 := hw
  have hP : va_P (dC, dI) vwCl [(p0, .inr (7, oM p2 i7 j7))] H := hP
  have hD : va_D A [(p0, .inr (7, oM p2 i7 j7))] := hD
  refine lv_if_ne (tgt := 11) hx hb dX7_bears_6 (by decide) (fun _ => ?_) (fun q9 => absurd q9 (by decide +kernel))
  refine lv_iconst (v := 0) hx hb dX7_bears_11 (by decide +kernel) ?_
  refine lv_istore_n (lv' := [(2, .int 0), (0, .ref p0), (1, .int 1)]) hx hb dX7_bears_12 rfl hl (by decide) rfl (fun ls hl => ?_)
  refine lv_iconst (v := (-1)) hx hb dX7_bears_13 (by decide +kernel) ?_
  refine lv_istore_n (lv' := [(3, .int (-1)), (2, .int 0), (0, .ref p0), (1, .int 1)]) hx hb dX7_bears_14 rfl hl (by decide) rfl (fun ls hl => ?_)
  refine lv_iconst (v := (-1)) hx hb dX7_bears_15 (by decide +kernel) ?_
  refine lv_istore (lv' := [(4, .int (-1)), (3, .int (-1)), (2, .int 0), (0, .ref p0), (1, .int 1)]) hx hb dX7_bears_16 hl (by decide) rfl (fun ls hl => ?_)
  refine lv_iconst (v := 1) hx hb dX7_bears_18 (by decide +kernel) ?_
  refine lv_istore (lv' := [(5, .int 1), (4, .int (-1)), (3, .int (-1)), (2, .int 0), (0, .ref p0), (1, .int 1)]) hx hb dX7_bears_19 hl (by decide) rfl (fun ls hl => ?_)
  refine lv_iload hx hb dX7_bears_21 (lv_at hl 0 rfl) ?_
  refine lv_sipush (v := 999) hx hb dX7_bears_23 (by decide +kernel) ?_
  refine lv_icmp_gt (tgt := 66) hx hb dX7_bears_26 (by decide) (fun q9 => absurd q9 (by decide +kernel)) (fun _ => ?_)
  refine lv_aload_n hx hb dX7_bears_29 rfl (lv_at hl 4 rfl) ?_
  refine lv_iload hx hb dX7_bears_30 (lv_at hl 0 rfl) ?_
  refine k_ci (wc := [(p0, .inr (7, oM p2 i7 j7))]) (wr := []) (fun hPc hDc hFc => va_runV (As := [.int 1]) (rest := []) ⟨hx, hb, hml, hown, hts⟩ (c_X7_canBear_v0 l dC dI cI cJ cZ cM p0 p2 H.size) (cwV 1 hts gX7_bears_X7_canBear rfl rfl rfl (by decide +kernel) ⟨(Nat.le_of_ble_eq_true rfl), (Nat.le_of_ble_eq_true rfl)⟩) (k_pV hPc hDc hK hN hC hS hFc hP (q0 := 0) (ci := 7) rfl rfl) rfl rfl hl.1 rfl (lv_room (Nat.le_of_ble_eq_true rfl)) dX7_bears_32 ⟨(Nat.le_of_ble_eq_true rfl), (Nat.le_of_ble_eq_true rfl)⟩) hP hD hS hA [0] [] rfl rfl rfl rfl (by decide) (fun _ => rfl) 0 0 rfl rfl (fun r_4 u_5 H locs hw hP hD hS => ?_)
  obtain rfl : r_4 = 1 := hw
  have hP : va_P (dC, dI) vwCl [(p0, .inr (7, oM p2 i7 j7))] H := hP
  have hD : va_D A [(p0, .inr (7, oM p2 i7 j7))] := hD
  refine lv_if_ne (tgt := 41) hx hb dX7_bears_35 (by decide) (fun _ => ?_) (fun q9 => absurd q9 (by decide +kernel))
  refine lv_iinc (v := 1) (lv' := [(2, .int 1), (5, .int 1), (4, .int (-1)), (3, .int (-1)), (0, .ref p0), (1, .int 1)]) hx hb dX7_bears_41 hl (k := 3) rfl (by decide +kernel) (by decide) rfl (fun ls hl => ?_)
  refine lv_iload_n hx hb dX7_bears_44 rfl (lv_at hl 3 rfl) ?_
  refine lv_iconst (v := (-1)) hx hb dX7_bears_45 (by decide +kernel) ?_
  refine lv_icmp_ne (tgt := 54) hx hb dX7_bears_46 (by decide) (fun q9 => absurd q9 (by decide +kernel)) (fun _ => ?_)
  refine lv_iload hx hb dX7_bears_49 (lv_at hl 1 rfl) ?_
  refine lv_goto (tgt := 55) hx hb dX7_bears_51 (by decide) ?_
  refine lv_istore_n (lv' := [(3, .int 1), (2, .int 1), (5, .int 1), (4, .int (-1)), (0, .ref p0), (1, .int 1)]) hx hb dX7_bears_55 rfl hl (by decide) rfl (fun ls hl => ?_)
  refine lv_iload hx hb dX7_bears_56 (lv_at hl 2 rfl) ?_
  refine lv_istore (lv' := [(4, .int 1), (3, .int 1), (2, .int 1), (5, .int 1), (0, .ref p0), (1, .int 1)]) hx hb dX7_bears_58 hl (by decide) rfl (fun ls hl => ?_)
  refine lv_iinc (v := 2) (lv' := [(5, .int 2), (4, .int 1), (3, .int 1), (2, .int 1), (0, .ref p0), (1, .int 1)]) hx hb dX7_bears_60 hl (k := 3) rfl (by decide +kernel) (by decide) rfl (fun ls hl => ?_)
  refine lv_goto (tgt := 21) hx hb dX7_bears_63 (by decide) ?_
  have loop_k_6 : ∀ (n_k_6 : Nat) (kk_6 : Nat) (h1k_6 : 1 ≤ kk_6) (h2k_6 : kk_6 ≤ 999) (hn_k_6 : 999 - kk_6 < n_k_6) (H : Heap) (locs : List Loc) (ls : Array Slot), va_P (dC, dI) vwCl [(p0, .inr (7, oM p2 i7 j7))] H → va_D A [(p0, .inr (7, oM p2 i7 j7))] → va_S A s.heap H locs → lv_has ls 6 [(5, .int (nI (kk_6 + 1))), (4, .int (nI kk_6)), (3, .int 1), (2, .int (nI kk_6)), (0, .ref p0), (1, .int 1)] → W p l e ({ frames := 2, cells := 0, slots := 0, locals := 62 }) s m args below meth c H locs 0 0 (MQ below (va_Qi (fun (r9 : Int32) (u9 : Unit) => r9 = 1) (fun u => k_B (dC, dI) vwCl (tyy cI cJ cZ cM) A ((fun (u9 : Unit) => [(p0, .inr (7, oM p2 i7 j7))]) u)) A) args s 0 0 A) (F0 m 21 ls []) := by
    intro n_k_6
    induction n_k_6 with
    | zero => intro kk_6 h1k_6 h2k_6 hn_k_6; exact absurd hn_k_6 (Nat.not_lt_zero _)
    | succ n_k_6 ih_k_6 =>
      intro kk_6 h1k_6 h2k_6 hn_k_6 H locs ls hP hD hS hl
      refine lv_iload hx hb dX7_bears_21 (lv_at hl 0 rfl) ?_
      refine lv_sipush (v := 999) hx hb dX7_bears_23 (by decide +kernel) ?_
      refine lv_icmp_gt (tgt := 66) hx hb dX7_bears_26 (by decide) (fun c_7 => ?_) (fun c_7 => ?_)
      · have c_7 : 999 < (((kk_6 + 1) : Nat) : Int) := k_ltT (by decide +kernel) (nI_toInt (by omega)) c_7
        obtain rfl : kk_6 = 999 := by omega
        have hl : lv_has ls 6 [(5, .int 1000), (4, .int 999), (3, .int 1), (2, .int 999), (0, .ref p0), (1, .int 1)] := hl
        have hP : va_P (dC, dI) vwCl [(p0, .inr (7, oM p2 i7 j7))] H := hP
        have hD : va_D A [(p0, .inr (7, oM p2 i7 j7))] := hD
        refine lv_iload_n hx hb dX7_bears_66 rfl (lv_at hl 5 rfl) ?_
        refine lv_if_ne (tgt := 74) hx hb dX7_bears_67 (by decide) (fun _ => ?_) (fun q9 => absurd q9 (by decide +kernel))
        refine lv_iload_n hx hb dX7_bears_74 rfl (lv_at hl 5 rfl) ?_
        refine lv_iconst (v := 1) hx hb dX7_bears_75 (by decide +kernel) ?_
        refine lv_icmp_ne (tgt := 83) hx hb dX7_bears_76 (by decide) (fun q9 => absurd q9 (by decide +kernel)) (fun _ => ?_)
        refine lv_iload_n hx hb dX7_bears_79 rfl (lv_at hl 2 rfl) ?_
        refine lv_goto (tgt := 85) hx hb dX7_bears_80 (by decide) ?_
        exact k_ri B hP hD hS dX7_bears_85 () [0] rfl rfl rfl (Nat.le_of_ble_eq_true rfl) (Nat.le_of_ble_eq_true rfl) rfl
      · have c_7 : (((kk_6 + 1) : Nat) : Int) ≤ 999 := k_ltF (by decide +kernel) (nI_toInt (by omega)) c_7
        refine lv_aload_n hx hb dX7_bears_29 rfl (lv_at hl 4 rfl) ?_
        refine lv_iload hx hb dX7_bears_30 (lv_at hl 0 rfl) ?_
        refine k_ci (wc := [(p0, .inr (7, oM p2 i7 j7))]) (wr := []) (fun hPc hDc hFc => va_runV (As := [.int (nI (kk_6 + 1))]) (rest := []) ⟨hx, hb, hml, hown, hts⟩ (c_X7_canBear_v1 l dC dI cI cJ cZ cM p0 kk_6 p2 (by omega) (by omega) H.size) (cwV 1 hts gX7_bears_X7_canBear rfl rfl rfl (by decide +kernel) ⟨(Nat.le_of_ble_eq_true rfl), (Nat.le_of_ble_eq_true rfl)⟩) (k_pV hPc hDc hK hN hC hS hFc hP (q0 := 0) (ci := 7) rfl rfl) rfl rfl hl.1 rfl (lv_room (Nat.le_of_ble_eq_true rfl)) dX7_bears_32 ⟨(Nat.le_of_ble_eq_true rfl), (Nat.le_of_ble_eq_true rfl)⟩) hP hD hS hA [0] [] rfl rfl rfl rfl (by decide) (fun _ => rfl) 0 0 rfl rfl (fun r_8 u_9 H locs hw hP hD hS => ?_)
        obtain rfl : r_8 = 1 := hw
        have hP : va_P (dC, dI) vwCl [(p0, .inr (7, oM p2 i7 j7))] H := hP
        have hD : va_D A [(p0, .inr (7, oM p2 i7 j7))] := hD
        refine lv_if_ne (tgt := 41) hx hb dX7_bears_35 (by decide) (fun _ => ?_) (fun q9 => absurd q9 (by decide +kernel))
        refine lv_iinc (v := (nI (kk_6 + 1))) (lv' := [(2, .int (nI (kk_6 + 1))), (5, .int (nI (kk_6 + 1))), (4, .int (nI kk_6)), (3, .int 1), (0, .ref p0), (1, .int 1)]) hx hb dX7_bears_41 hl (k := 3) rfl (nI_1 _) (by decide) rfl (fun ls hl => ?_)
        refine lv_iload_n hx hb dX7_bears_44 rfl (lv_at hl 3 rfl) ?_
        refine lv_iconst (v := (-1)) hx hb dX7_bears_45 (by decide +kernel) ?_
        refine lv_icmp_ne (tgt := 54) hx hb dX7_bears_46 (by decide) (fun _ => ?_) (fun q9 => absurd q9 (by decide +kernel))
        refine lv_iload_n hx hb dX7_bears_54 rfl (lv_at hl 3 rfl) ?_
        refine lv_istore_n (lv' := [(3, .int 1), (2, .int (nI (kk_6 + 1))), (5, .int (nI (kk_6 + 1))), (4, .int (nI kk_6)), (0, .ref p0), (1, .int 1)]) hx hb dX7_bears_55 rfl hl (by decide) rfl (fun ls hl => ?_)
        refine lv_iload hx hb dX7_bears_56 (lv_at hl 2 rfl) ?_
        refine lv_istore (lv' := [(4, .int (nI (kk_6 + 1))), (3, .int 1), (2, .int (nI (kk_6 + 1))), (5, .int (nI (kk_6 + 1))), (0, .ref p0), (1, .int 1)]) hx hb dX7_bears_58 hl (by decide) rfl (fun ls hl => ?_)
        refine lv_iinc (v := (nI ((kk_6 + 1) + 1))) (lv' := [(5, .int (nI ((kk_6 + 1) + 1))), (4, .int (nI (kk_6 + 1))), (3, .int 1), (2, .int (nI (kk_6 + 1))), (0, .ref p0), (1, .int 1)]) hx hb dX7_bears_60 hl (k := 3) rfl (nI_1 _) (by decide) rfl (fun ls hl => ?_)
        refine lv_goto (tgt := 21) hx hb dX7_bears_63 (by decide) ?_
        exact ih_k_6 (kk_6 + 1) (by omega) (by omega) (by omega) H locs ls (hP.sub [0] rfl) (hD.sub [0] (by decide) rfl) hS (lv_sub hl [0, 1, 2, 3, 4, 5] rfl)
  exact loop_k_6 _ 1 (by omega) (by omega) (Nat.lt_succ_self _) H locs ls hP hD hS hl
set_option maxHeartbeats 4000000 in
set_option maxRecDepth 100000 in
theorem c_X7_is_v28 (l : Launch) (dC : Nat → ClassId) (dI : Nat → Nat → Nat) (cI cJ cZ cM : ClassId)    : k_Mi l yX7_is wsX7_is ({ frames := 1, cells := 0, slots := 0, locals := 40 }) (dC, dI) vwCl (tyy cI cJ cZ cM) [] [.int 2, .int 0, .int 2] 0 0 (fun (u9 : Unit) => []) (fun (r9 : Int32) (u9 : Unit) => r9 = 1) := by
  refine fun sz => k_enter (cc := cX7_is) (maxL := 3) (ret := some (.boolean)) (Qc := fun A => va_Qi (fun (r9 : Int32) (u9 : Unit) => r9 = 1) (fun u => k_B (dC, dI) vwCl (tyy cI cJ cZ cM) A ((fun (u9 : Unit) => []) u)) A) sz (by decide +kernel) rfl (Nat.le_of_ble_eq_true rfl) (fun p e s m args below meth c A ls H locs B hP hD hS hl => ?_)
  obtain ⟨hx, hb, hml, hown, hts, hr, hlk, hnm, hK, hA, hN, hC⟩ := id B
  have hown : s.vm.findClass RX7 = some m.cls := hown
  have hl : lv_has ls 3 [(0, .int 2), (1, .int 0), (2, .int 2)] := hl
  refine lv_iload_n hx hb dX7_is_0 rfl (lv_at hl 0 rfl) ?_
  refine lv_iload_n hx hb dX7_is_1 rfl (lv_at hl 1 rfl) ?_
  refine lv_icmp_lt (tgt := 14) hx hb dX7_is_2 (by decide) (fun q9 => absurd q9 (by decide +kernel)) (fun _ => ?_)
  refine lv_iload_n hx hb dX7_is_5 rfl (lv_at hl 0 rfl) ?_
  refine lv_iload_n hx hb dX7_is_6 rfl (lv_at hl 2 rfl) ?_
  refine lv_icmp_gt (tgt := 14) hx hb dX7_is_7 (by decide) (fun q9 => absurd q9 (by decide +kernel)) (fun _ => ?_)
  refine lv_iconst (v := 1) hx hb dX7_is_10 (by decide +kernel) ?_
  refine lv_goto (tgt := 15) hx hb dX7_is_11 (by decide) ?_
  exact k_ri B hP hD hS dX7_is_15 () [] rfl rfl rfl (Nat.le_of_ble_eq_true rfl) (Nat.le_of_ble_eq_true rfl) rfl
set_option maxHeartbeats 4000000 in
set_option maxRecDepth 100000 in
theorem c_X7_bears_v2 (l : Launch) (dC : Nat → ClassId) (dI : Nat → Nat → Nat) (cI cJ cZ cM : ClassId) (p0 : Nat) (p1 : Int32) (p2 : Nat → Nat) (b_0 : 2 ≤ p1.toInt) (t_0 : p1.toInt ≤ 2)  : k_Mi l yX7_bears wsX7_bears ({ frames := 2, cells := 0, slots := 0, locals := 62 }) (dC, dI) vwCl (tyy cI cJ cZ cM) [(p0, .inr (7, oM p2 i7 j7))] [.ref p0, .int p1] 0 0 (fun (u9 : Unit) => [(p0, .inr (7, oM p2 i7 j7))]) (fun (r9 : Int32) (u9 : Unit) => r9 = 999) := by
  refine fun sz => k_enter (cc := cX7_bears) (maxL := 6) (ret := some (.int)) (Qc := fun A => va_Qi (fun (r9 : Int32) (u9 : Unit) => r9 = 999) (fun u => k_B (dC, dI) vwCl (tyy cI cJ cZ cM) A ((fun (u9 : Unit) => [(p0, .inr (7, oM p2 i7 j7))]) u)) A) sz (by decide +kernel) rfl (Nat.le_of_ble_eq_true rfl) (fun p e s m args below meth c A ls H locs B hP hD hS hl => ?_)
  obtain ⟨hx, hb, hml, hown, hts, hr, hlk, hnm, hK, hA, hN, hC⟩ := id B
  have hown : s.vm.findClass RX7 = some m.cls := hown
  have hl : lv_has ls 6 [(0, .ref p0), (1, .int p1)] := hl
  rcases (show p1.toInt = 2 by omega) with c_1
  obtain rfl : p1 = 2 := k_eqL (by decide +kernel) c_1
  refine lv_iload_n hx hb dX7_bears_0 rfl (lv_at hl 1 rfl) ?_
  refine lv_iconst (v := 0) hx hb dX7_bears_1 (by decide +kernel) ?_
  refine lv_iconst (v := 2) hx hb dX7_bears_2 (by decide +kernel) ?_
  refine k_ci (wc := []) (wr := [(p0, .inr (7, oM p2 i7 j7))]) (fun hPc hDc hFc => va_runS (As := [.int 2, .int 0, .int 2]) (rest := []) ⟨hx, hb, hml, hown, hts⟩ (c_X7_is_v28 l dC dI cI cJ cZ cM H.size) (va_cwS 3 hts gX7_bears_X7_is rfl rfl rfl (by decide +kernel) ⟨(Nat.le_of_ble_eq_true rfl), (Nat.le_of_ble_eq_true rfl)⟩) (k_pS hPc hDc hK hN hC hS hFc) rfl rfl hl.1 rfl (lv_room (Nat.le_of_ble_eq_true rfl)) dX7_bears_3 ⟨(Nat.le_of_ble_eq_true rfl), (Nat.le_of_ble_eq_true rfl)⟩) hP hD hS hA [] [0] rfl rfl rfl rfl (by decide) (fun _ => rfl) 0 0 rfl rfl (fun r_2 u_3 H locs hw hP hD hS => ?_)
  obtain rfl : r_2 = 1 := hw
  have hP : va_P (dC, dI) vwCl [(p0, .inr (7, oM p2 i7 j7))] H := hP
  have hD : va_D A [(p0, .inr (7, oM p2 i7 j7))] := hD
  refine lv_if_ne (tgt := 11) hx hb dX7_bears_6 (by decide) (fun _ => ?_) (fun q9 => absurd q9 (by decide +kernel))
  refine lv_iconst (v := 0) hx hb dX7_bears_11 (by decide +kernel) ?_
  refine lv_istore_n (lv' := [(2, .int 0), (0, .ref p0), (1, .int 2)]) hx hb dX7_bears_12 rfl hl (by decide) rfl (fun ls hl => ?_)
  refine lv_iconst (v := (-1)) hx hb dX7_bears_13 (by decide +kernel) ?_
  refine lv_istore_n (lv' := [(3, .int (-1)), (2, .int 0), (0, .ref p0), (1, .int 2)]) hx hb dX7_bears_14 rfl hl (by decide) rfl (fun ls hl => ?_)
  refine lv_iconst (v := (-1)) hx hb dX7_bears_15 (by decide +kernel) ?_
  refine lv_istore (lv' := [(4, .int (-1)), (3, .int (-1)), (2, .int 0), (0, .ref p0), (1, .int 2)]) hx hb dX7_bears_16 hl (by decide) rfl (fun ls hl => ?_)
  refine lv_iconst (v := 1) hx hb dX7_bears_18 (by decide +kernel) ?_
  refine lv_istore (lv' := [(5, .int 1), (4, .int (-1)), (3, .int (-1)), (2, .int 0), (0, .ref p0), (1, .int 2)]) hx hb dX7_bears_19 hl (by decide) rfl (fun ls hl => ?_)
  refine lv_iload hx hb dX7_bears_21 (lv_at hl 0 rfl) ?_
  refine lv_sipush (v := 999) hx hb dX7_bears_23 (by decide +kernel) ?_
  refine lv_icmp_gt (tgt := 66) hx hb dX7_bears_26 (by decide) (fun q9 => absurd q9 (by decide +kernel)) (fun _ => ?_)
  refine lv_aload_n hx hb dX7_bears_29 rfl (lv_at hl 4 rfl) ?_
  refine lv_iload hx hb dX7_bears_30 (lv_at hl 0 rfl) ?_
  refine k_ci (wc := [(p0, .inr (7, oM p2 i7 j7))]) (wr := []) (fun hPc hDc hFc => va_runV (As := [.int 1]) (rest := []) ⟨hx, hb, hml, hown, hts⟩ (c_X7_canBear_v0 l dC dI cI cJ cZ cM p0 p2 H.size) (cwV 1 hts gX7_bears_X7_canBear rfl rfl rfl (by decide +kernel) ⟨(Nat.le_of_ble_eq_true rfl), (Nat.le_of_ble_eq_true rfl)⟩) (k_pV hPc hDc hK hN hC hS hFc hP (q0 := 0) (ci := 7) rfl rfl) rfl rfl hl.1 rfl (lv_room (Nat.le_of_ble_eq_true rfl)) dX7_bears_32 ⟨(Nat.le_of_ble_eq_true rfl), (Nat.le_of_ble_eq_true rfl)⟩) hP hD hS hA [0] [] rfl rfl rfl rfl (by decide) (fun _ => rfl) 0 0 rfl rfl (fun r_4 u_5 H locs hw hP hD hS => ?_)
  obtain rfl : r_4 = 1 := hw
  have hP : va_P (dC, dI) vwCl [(p0, .inr (7, oM p2 i7 j7))] H := hP
  have hD : va_D A [(p0, .inr (7, oM p2 i7 j7))] := hD
  refine lv_if_ne (tgt := 41) hx hb dX7_bears_35 (by decide) (fun _ => ?_) (fun q9 => absurd q9 (by decide +kernel))
  refine lv_iinc (v := 1) (lv' := [(2, .int 1), (5, .int 1), (4, .int (-1)), (3, .int (-1)), (0, .ref p0), (1, .int 2)]) hx hb dX7_bears_41 hl (k := 3) rfl (by decide +kernel) (by decide) rfl (fun ls hl => ?_)
  refine lv_iload_n hx hb dX7_bears_44 rfl (lv_at hl 3 rfl) ?_
  refine lv_iconst (v := (-1)) hx hb dX7_bears_45 (by decide +kernel) ?_
  refine lv_icmp_ne (tgt := 54) hx hb dX7_bears_46 (by decide) (fun q9 => absurd q9 (by decide +kernel)) (fun _ => ?_)
  refine lv_iload hx hb dX7_bears_49 (lv_at hl 1 rfl) ?_
  refine lv_goto (tgt := 55) hx hb dX7_bears_51 (by decide) ?_
  refine lv_istore_n (lv' := [(3, .int 1), (2, .int 1), (5, .int 1), (4, .int (-1)), (0, .ref p0), (1, .int 2)]) hx hb dX7_bears_55 rfl hl (by decide) rfl (fun ls hl => ?_)
  refine lv_iload hx hb dX7_bears_56 (lv_at hl 2 rfl) ?_
  refine lv_istore (lv' := [(4, .int 1), (3, .int 1), (2, .int 1), (5, .int 1), (0, .ref p0), (1, .int 2)]) hx hb dX7_bears_58 hl (by decide) rfl (fun ls hl => ?_)
  refine lv_iinc (v := 2) (lv' := [(5, .int 2), (4, .int 1), (3, .int 1), (2, .int 1), (0, .ref p0), (1, .int 2)]) hx hb dX7_bears_60 hl (k := 3) rfl (by decide +kernel) (by decide) rfl (fun ls hl => ?_)
  refine lv_goto (tgt := 21) hx hb dX7_bears_63 (by decide) ?_
  have loop_k_6 : ∀ (n_k_6 : Nat) (kk_6 : Nat) (h1k_6 : 1 ≤ kk_6) (h2k_6 : kk_6 ≤ 999) (hn_k_6 : 999 - kk_6 < n_k_6) (H : Heap) (locs : List Loc) (ls : Array Slot), va_P (dC, dI) vwCl [(p0, .inr (7, oM p2 i7 j7))] H → va_D A [(p0, .inr (7, oM p2 i7 j7))] → va_S A s.heap H locs → lv_has ls 6 [(5, .int (nI (kk_6 + 1))), (4, .int (nI kk_6)), (3, .int 1), (2, .int (nI kk_6)), (0, .ref p0), (1, .int 2)] → W p l e ({ frames := 2, cells := 0, slots := 0, locals := 62 }) s m args below meth c H locs 0 0 (MQ below (va_Qi (fun (r9 : Int32) (u9 : Unit) => r9 = 999) (fun u => k_B (dC, dI) vwCl (tyy cI cJ cZ cM) A ((fun (u9 : Unit) => [(p0, .inr (7, oM p2 i7 j7))]) u)) A) args s 0 0 A) (F0 m 21 ls []) := by
    intro n_k_6
    induction n_k_6 with
    | zero => intro kk_6 h1k_6 h2k_6 hn_k_6; exact absurd hn_k_6 (Nat.not_lt_zero _)
    | succ n_k_6 ih_k_6 =>
      intro kk_6 h1k_6 h2k_6 hn_k_6 H locs ls hP hD hS hl
      refine lv_iload hx hb dX7_bears_21 (lv_at hl 0 rfl) ?_
      refine lv_sipush (v := 999) hx hb dX7_bears_23 (by decide +kernel) ?_
      refine lv_icmp_gt (tgt := 66) hx hb dX7_bears_26 (by decide) (fun c_7 => ?_) (fun c_7 => ?_)
      · have c_7 : 999 < (((kk_6 + 1) : Nat) : Int) := k_ltT (by decide +kernel) (nI_toInt (by omega)) c_7
        obtain rfl : kk_6 = 999 := by omega
        have hl : lv_has ls 6 [(5, .int 1000), (4, .int 999), (3, .int 1), (2, .int 999), (0, .ref p0), (1, .int 2)] := hl
        have hP : va_P (dC, dI) vwCl [(p0, .inr (7, oM p2 i7 j7))] H := hP
        have hD : va_D A [(p0, .inr (7, oM p2 i7 j7))] := hD
        refine lv_iload_n hx hb dX7_bears_66 rfl (lv_at hl 5 rfl) ?_
        refine lv_if_ne (tgt := 74) hx hb dX7_bears_67 (by decide) (fun _ => ?_) (fun q9 => absurd q9 (by decide +kernel))
        refine lv_iload_n hx hb dX7_bears_74 rfl (lv_at hl 5 rfl) ?_
        refine lv_iconst (v := 1) hx hb dX7_bears_75 (by decide +kernel) ?_
        refine lv_icmp_ne (tgt := 83) hx hb dX7_bears_76 (by decide) (fun _ => ?_) (fun q9 => absurd q9 (by decide +kernel))
        refine lv_iload hx hb dX7_bears_83 (lv_at hl 1 rfl) ?_
        exact k_ri B hP hD hS dX7_bears_85 () [0] rfl rfl rfl (Nat.le_of_ble_eq_true rfl) (Nat.le_of_ble_eq_true rfl) rfl
      · have c_7 : (((kk_6 + 1) : Nat) : Int) ≤ 999 := k_ltF (by decide +kernel) (nI_toInt (by omega)) c_7
        refine lv_aload_n hx hb dX7_bears_29 rfl (lv_at hl 4 rfl) ?_
        refine lv_iload hx hb dX7_bears_30 (lv_at hl 0 rfl) ?_
        refine k_ci (wc := [(p0, .inr (7, oM p2 i7 j7))]) (wr := []) (fun hPc hDc hFc => va_runV (As := [.int (nI (kk_6 + 1))]) (rest := []) ⟨hx, hb, hml, hown, hts⟩ (c_X7_canBear_v1 l dC dI cI cJ cZ cM p0 kk_6 p2 (by omega) (by omega) H.size) (cwV 1 hts gX7_bears_X7_canBear rfl rfl rfl (by decide +kernel) ⟨(Nat.le_of_ble_eq_true rfl), (Nat.le_of_ble_eq_true rfl)⟩) (k_pV hPc hDc hK hN hC hS hFc hP (q0 := 0) (ci := 7) rfl rfl) rfl rfl hl.1 rfl (lv_room (Nat.le_of_ble_eq_true rfl)) dX7_bears_32 ⟨(Nat.le_of_ble_eq_true rfl), (Nat.le_of_ble_eq_true rfl)⟩) hP hD hS hA [0] [] rfl rfl rfl rfl (by decide) (fun _ => rfl) 0 0 rfl rfl (fun r_8 u_9 H locs hw hP hD hS => ?_)
        obtain rfl : r_8 = 1 := hw
        have hP : va_P (dC, dI) vwCl [(p0, .inr (7, oM p2 i7 j7))] H := hP
        have hD : va_D A [(p0, .inr (7, oM p2 i7 j7))] := hD
        refine lv_if_ne (tgt := 41) hx hb dX7_bears_35 (by decide) (fun _ => ?_) (fun q9 => absurd q9 (by decide +kernel))
        refine lv_iinc (v := (nI (kk_6 + 1))) (lv' := [(2, .int (nI (kk_6 + 1))), (5, .int (nI (kk_6 + 1))), (4, .int (nI kk_6)), (3, .int 1), (0, .ref p0), (1, .int 2)]) hx hb dX7_bears_41 hl (k := 3) rfl (nI_1 _) (by decide) rfl (fun ls hl => ?_)
        refine lv_iload_n hx hb dX7_bears_44 rfl (lv_at hl 3 rfl) ?_
        refine lv_iconst (v := (-1)) hx hb dX7_bears_45 (by decide +kernel) ?_
        refine lv_icmp_ne (tgt := 54) hx hb dX7_bears_46 (by decide) (fun _ => ?_) (fun q9 => absurd q9 (by decide +kernel))
        refine lv_iload_n hx hb dX7_bears_54 rfl (lv_at hl 3 rfl) ?_
        refine lv_istore_n (lv' := [(3, .int 1), (2, .int (nI (kk_6 + 1))), (5, .int (nI (kk_6 + 1))), (4, .int (nI kk_6)), (0, .ref p0), (1, .int 2)]) hx hb dX7_bears_55 rfl hl (by decide) rfl (fun ls hl => ?_)
        refine lv_iload hx hb dX7_bears_56 (lv_at hl 2 rfl) ?_
        refine lv_istore (lv' := [(4, .int (nI (kk_6 + 1))), (3, .int 1), (2, .int (nI (kk_6 + 1))), (5, .int (nI (kk_6 + 1))), (0, .ref p0), (1, .int 2)]) hx hb dX7_bears_58 hl (by decide) rfl (fun ls hl => ?_)
        refine lv_iinc (v := (nI ((kk_6 + 1) + 1))) (lv' := [(5, .int (nI ((kk_6 + 1) + 1))), (4, .int (nI (kk_6 + 1))), (3, .int 1), (2, .int (nI (kk_6 + 1))), (0, .ref p0), (1, .int 2)]) hx hb dX7_bears_60 hl (k := 3) rfl (nI_1 _) (by decide) rfl (fun ls hl => ?_)
        refine lv_goto (tgt := 21) hx hb dX7_bears_63 (by decide) ?_
        exact ih_k_6 (kk_6 + 1) (by omega) (by omega) (by omega) H locs ls (hP.sub [0] rfl) (hD.sub [0] (by decide) rfl) hS (lv_sub hl [0, 1, 2, 3, 4, 5] rfl)
  exact loop_k_6 _ 1 (by omega) (by omega) (Nat.lt_succ_self _) H locs ls hP hD hS hl
set_option maxHeartbeats 4000000 in
set_option maxRecDepth 100000 in
theorem c_X7_bears_v3 (l : Launch) (dC : Nat → ClassId) (dI : Nat → Nat → Nat) (cI cJ cZ cM : ClassId) (p0 : Nat) (p1 : Int32) (p2 : Nat → Nat)   : k_Mi l yX7_bears wsX7_bears ({ frames := 2, cells := 0, slots := 0, locals := 62 }) (dC, dI) vwCl (tyy cI cJ cZ cM) [(p0, .inr (7, oM p2 i7 j7))] [.ref p0, .int p1] 0 0 (fun (u9 : (Nat × (Nat → Nat))) => [(p0, .inr (7, oM p2 i7 j7))]) (fun (r9 : Int32) (u9 : (Nat × (Nat → Nat))) => match u9.1 with | 0 => (p1.toInt < 0) ∧ r9 = (-1) | 1 => (0 ≤ p1.toInt) ∧ (2 < p1.toInt) ∧ r9 = (-1) | 2 => (0 ≤ p1.toInt) ∧ (p1.toInt ≤ 2) ∧ (¬ p1.toInt = 0) ∧ (¬ p1.toInt = 1) ∧ r9 = 999 | 3 => (0 ≤ p1.toInt) ∧ (p1.toInt ≤ 2) ∧ (¬ p1.toInt = 0) ∧ (p1.toInt = 1) ∧ r9 = 1 | 4 => (0 ≤ p1.toInt) ∧ (p1.toInt ≤ 2) ∧ (p1.toInt = 0) ∧ r9 = 999 | _ => False) := by
  refine fun sz => k_enter (cc := cX7_bears) (maxL := 6) (ret := some (.int)) (Qc := fun A => va_Qi (fun (r9 : Int32) (u9 : (Nat × (Nat → Nat))) => match u9.1 with | 0 => (p1.toInt < 0) ∧ r9 = (-1) | 1 => (0 ≤ p1.toInt) ∧ (2 < p1.toInt) ∧ r9 = (-1) | 2 => (0 ≤ p1.toInt) ∧ (p1.toInt ≤ 2) ∧ (¬ p1.toInt = 0) ∧ (¬ p1.toInt = 1) ∧ r9 = 999 | 3 => (0 ≤ p1.toInt) ∧ (p1.toInt ≤ 2) ∧ (¬ p1.toInt = 0) ∧ (p1.toInt = 1) ∧ r9 = 1 | 4 => (0 ≤ p1.toInt) ∧ (p1.toInt ≤ 2) ∧ (p1.toInt = 0) ∧ r9 = 999 | _ => False) (fun u => k_B (dC, dI) vwCl (tyy cI cJ cZ cM) A ((fun (u9 : (Nat × (Nat → Nat))) => [(p0, .inr (7, oM p2 i7 j7))]) u)) A) sz (by decide +kernel) rfl (Nat.le_of_ble_eq_true rfl) (fun p e s m args below meth c A ls H locs B hP hD hS hl => ?_)
  obtain ⟨hx, hb, hml, hown, hts, hr, hlk, hnm, hK, hA, hN, hC⟩ := id B
  have hown : s.vm.findClass RX7 = some m.cls := hown
  have hl : lv_has ls 6 [(0, .ref p0), (1, .int p1)] := hl
  refine lv_iload_n hx hb dX7_bears_0 rfl (lv_at hl 1 rfl) ?_
  refine lv_iconst (v := 0) hx hb dX7_bears_1 (by decide +kernel) ?_
  refine lv_iconst (v := 2) hx hb dX7_bears_2 (by decide +kernel) ?_
  refine k_ci (wc := []) (wr := [(p0, .inr (7, oM p2 i7 j7))]) (fun hPc hDc hFc => va_runS (As := [.int p1, .int 0, .int 2]) (rest := []) ⟨hx, hb, hml, hown, hts⟩ (c_X7_is_v25 l dC dI cI cJ cZ cM p1 H.size) (va_cwS 3 hts gX7_bears_X7_is rfl rfl rfl (by decide +kernel) ⟨(Nat.le_of_ble_eq_true rfl), (Nat.le_of_ble_eq_true rfl)⟩) (k_pS hPc hDc hK hN hC hS hFc) rfl rfl hl.1 rfl (lv_room (Nat.le_of_ble_eq_true rfl)) dX7_bears_3 ⟨(Nat.le_of_ble_eq_true rfl), (Nat.le_of_ble_eq_true rfl)⟩) hP hD hS hA [] [0] rfl rfl rfl rfl (by decide) (fun _ => rfl) 0 0 rfl rfl (fun r_1 u_2 H locs hw hP hD hS => ?_)
  obtain ⟨k_u_2, u_u_2⟩ := u_2
  rcases k_u_2 with _ | _ | _ | k_u_2
  · obtain ⟨c_3, rfl⟩ : (p1.toInt < 0) ∧ r_1 = 0 := hw
    have hP : va_P (dC, dI) vwCl [(p0, .inr (7, oM p2 i7 j7))] H := hP
    have hD : va_D A [(p0, .inr (7, oM p2 i7 j7))] := hD
    refine lv_if_ne (tgt := 11) hx hb dX7_bears_6 (by decide) (fun q9 => absurd q9 (by decide +kernel)) (fun _ => ?_)
    refine lv_iconst (v := (-1)) hx hb dX7_bears_9 (by decide +kernel) ?_
    exact k_ri B hP hD hS dX7_bears_10 (0, (fun _ => 0)) [0] rfl rfl rfl (Nat.le_of_ble_eq_true rfl) (Nat.le_of_ble_eq_true rfl) ⟨c_3, rfl⟩
  · obtain ⟨c_4, c_5, rfl⟩ : (0 ≤ p1.toInt) ∧ (2 < p1.toInt) ∧ r_1 = 0 := hw
    have hP : va_P (dC, dI) vwCl [(p0, .inr (7, oM p2 i7 j7))] H := hP
    have hD : va_D A [(p0, .inr (7, oM p2 i7 j7))] := hD
    refine lv_if_ne (tgt := 11) hx hb dX7_bears_6 (by decide) (fun q9 => absurd q9 (by decide +kernel)) (fun _ => ?_)
    refine lv_iconst (v := (-1)) hx hb dX7_bears_9 (by decide +kernel) ?_
    exact k_ri B hP hD hS dX7_bears_10 (1, (fun _ => 0)) [0] rfl rfl rfl (Nat.le_of_ble_eq_true rfl) (Nat.le_of_ble_eq_true rfl) ⟨c_4, c_5, rfl⟩
  · obtain ⟨c_6, c_7, rfl⟩ : (0 ≤ p1.toInt) ∧ (p1.toInt ≤ 2) ∧ r_1 = 1 := hw
    have hP : va_P (dC, dI) vwCl [(p0, .inr (7, oM p2 i7 j7))] H := hP
    have hD : va_D A [(p0, .inr (7, oM p2 i7 j7))] := hD
    refine lv_if_ne (tgt := 11) hx hb dX7_bears_6 (by decide) (fun _ => ?_) (fun q9 => absurd q9 (by decide +kernel))
    refine lv_iconst (v := 0) hx hb dX7_bears_11 (by decide +kernel) ?_
    refine lv_istore_n (lv' := [(2, .int 0), (0, .ref p0), (1, .int p1)]) hx hb dX7_bears_12 rfl hl (by decide) rfl (fun ls hl => ?_)
    refine lv_iconst (v := (-1)) hx hb dX7_bears_13 (by decide +kernel) ?_
    refine lv_istore_n (lv' := [(3, .int (-1)), (2, .int 0), (0, .ref p0), (1, .int p1)]) hx hb dX7_bears_14 rfl hl (by decide) rfl (fun ls hl => ?_)
    refine lv_iconst (v := (-1)) hx hb dX7_bears_15 (by decide +kernel) ?_
    refine lv_istore (lv' := [(4, .int (-1)), (3, .int (-1)), (2, .int 0), (0, .ref p0), (1, .int p1)]) hx hb dX7_bears_16 hl (by decide) rfl (fun ls hl => ?_)
    refine lv_iconst (v := 1) hx hb dX7_bears_18 (by decide +kernel) ?_
    refine lv_istore (lv' := [(5, .int 1), (4, .int (-1)), (3, .int (-1)), (2, .int 0), (0, .ref p0), (1, .int p1)]) hx hb dX7_bears_19 hl (by decide) rfl (fun ls hl => ?_)
    refine lv_iload hx hb dX7_bears_21 (lv_at hl 0 rfl) ?_
    refine lv_sipush (v := 999) hx hb dX7_bears_23 (by decide +kernel) ?_
    refine lv_icmp_gt (tgt := 66) hx hb dX7_bears_26 (by decide) (fun q9 => absurd q9 (by decide +kernel)) (fun _ => ?_)
    refine lv_aload_n hx hb dX7_bears_29 rfl (lv_at hl 4 rfl) ?_
    refine lv_iload hx hb dX7_bears_30 (lv_at hl 0 rfl) ?_
    refine k_ci (wc := [(p0, .inr (7, oM p2 i7 j7))]) (wr := []) (fun hPc hDc hFc => va_runV (As := [.int 1]) (rest := []) ⟨hx, hb, hml, hown, hts⟩ (c_X7_canBear_v0 l dC dI cI cJ cZ cM p0 p2 H.size) (cwV 1 hts gX7_bears_X7_canBear rfl rfl rfl (by decide +kernel) ⟨(Nat.le_of_ble_eq_true rfl), (Nat.le_of_ble_eq_true rfl)⟩) (k_pV hPc hDc hK hN hC hS hFc hP (q0 := 0) (ci := 7) rfl rfl) rfl rfl hl.1 rfl (lv_room (Nat.le_of_ble_eq_true rfl)) dX7_bears_32 ⟨(Nat.le_of_ble_eq_true rfl), (Nat.le_of_ble_eq_true rfl)⟩) hP hD hS hA [0] [] rfl rfl rfl rfl (by decide) (fun _ => rfl) 0 0 rfl rfl (fun r_8 u_9 H locs hw hP hD hS => ?_)
    obtain rfl : r_8 = 1 := hw
    have hP : va_P (dC, dI) vwCl [(p0, .inr (7, oM p2 i7 j7))] H := hP
    have hD : va_D A [(p0, .inr (7, oM p2 i7 j7))] := hD
    refine lv_if_ne (tgt := 41) hx hb dX7_bears_35 (by decide) (fun _ => ?_) (fun q9 => absurd q9 (by decide +kernel))
    refine lv_iinc (v := 1) (lv' := [(2, .int 1), (5, .int 1), (4, .int (-1)), (3, .int (-1)), (0, .ref p0), (1, .int p1)]) hx hb dX7_bears_41 hl (k := 3) rfl (by decide +kernel) (by decide) rfl (fun ls hl => ?_)
    refine lv_iload_n hx hb dX7_bears_44 rfl (lv_at hl 3 rfl) ?_
    refine lv_iconst (v := (-1)) hx hb dX7_bears_45 (by decide +kernel) ?_
    refine lv_icmp_ne (tgt := 54) hx hb dX7_bears_46 (by decide) (fun q9 => absurd q9 (by decide +kernel)) (fun _ => ?_)
    refine lv_iload hx hb dX7_bears_49 (lv_at hl 1 rfl) ?_
    refine lv_goto (tgt := 55) hx hb dX7_bears_51 (by decide) ?_
    refine lv_istore_n (lv' := [(3, .int 1), (2, .int 1), (5, .int 1), (4, .int (-1)), (0, .ref p0), (1, .int p1)]) hx hb dX7_bears_55 rfl hl (by decide) rfl (fun ls hl => ?_)
    refine lv_iload hx hb dX7_bears_56 (lv_at hl 2 rfl) ?_
    refine lv_istore (lv' := [(4, .int 1), (3, .int 1), (2, .int 1), (5, .int 1), (0, .ref p0), (1, .int p1)]) hx hb dX7_bears_58 hl (by decide) rfl (fun ls hl => ?_)
    refine lv_iinc (v := 2) (lv' := [(5, .int 2), (4, .int 1), (3, .int 1), (2, .int 1), (0, .ref p0), (1, .int p1)]) hx hb dX7_bears_60 hl (k := 3) rfl (by decide +kernel) (by decide) rfl (fun ls hl => ?_)
    refine lv_goto (tgt := 21) hx hb dX7_bears_63 (by decide) ?_
    have loop_k_10 : ∀ (n_k_10 : Nat) (kk_10 : Nat) (h1k_10 : 1 ≤ kk_10) (h2k_10 : kk_10 ≤ 999) (hn_k_10 : 999 - kk_10 < n_k_10) (H : Heap) (locs : List Loc) (ls : Array Slot), va_P (dC, dI) vwCl [(p0, .inr (7, oM p2 i7 j7))] H → va_D A [(p0, .inr (7, oM p2 i7 j7))] → va_S A s.heap H locs → lv_has ls 6 [(5, .int (nI (kk_10 + 1))), (4, .int (nI kk_10)), (3, .int 1), (2, .int (nI kk_10)), (0, .ref p0), (1, .int p1)] → W p l e ({ frames := 2, cells := 0, slots := 0, locals := 62 }) s m args below meth c H locs 0 0 (MQ below (va_Qi (fun (r9 : Int32) (u9 : (Nat × (Nat → Nat))) => match u9.1 with | 0 => (p1.toInt < 0) ∧ r9 = (-1) | 1 => (0 ≤ p1.toInt) ∧ (2 < p1.toInt) ∧ r9 = (-1) | 2 => (0 ≤ p1.toInt) ∧ (p1.toInt ≤ 2) ∧ (¬ p1.toInt = 0) ∧ (¬ p1.toInt = 1) ∧ r9 = 999 | 3 => (0 ≤ p1.toInt) ∧ (p1.toInt ≤ 2) ∧ (¬ p1.toInt = 0) ∧ (p1.toInt = 1) ∧ r9 = 1 | 4 => (0 ≤ p1.toInt) ∧ (p1.toInt ≤ 2) ∧ (p1.toInt = 0) ∧ r9 = 999 | _ => False) (fun u => k_B (dC, dI) vwCl (tyy cI cJ cZ cM) A ((fun (u9 : (Nat × (Nat → Nat))) => [(p0, .inr (7, oM p2 i7 j7))]) u)) A) args s 0 0 A) (F0 m 21 ls []) := by
      intro n_k_10
      induction n_k_10 with
      | zero => intro kk_10 h1k_10 h2k_10 hn_k_10; exact absurd hn_k_10 (Nat.not_lt_zero _)
      | succ n_k_10 ih_k_10 =>
        intro kk_10 h1k_10 h2k_10 hn_k_10 H locs ls hP hD hS hl
        refine lv_iload hx hb dX7_bears_21 (lv_at hl 0 rfl) ?_
        refine lv_sipush (v := 999) hx hb dX7_bears_23 (by decide +kernel) ?_
        refine lv_icmp_gt (tgt := 66) hx hb dX7_bears_26 (by decide) (fun c_11 => ?_) (fun c_11 => ?_)
        · have c_11 : 999 < (((kk_10 + 1) : Nat) : Int) := k_ltT (by decide +kernel) (nI_toInt (by omega)) c_11
          obtain rfl : kk_10 = 999 := by omega
          have hl : lv_has ls 6 [(5, .int 1000), (4, .int 999), (3, .int 1), (2, .int 999), (0, .ref p0), (1, .int p1)] := hl
          have hP : va_P (dC, dI) vwCl [(p0, .inr (7, oM p2 i7 j7))] H := hP
          have hD : va_D A [(p0, .inr (7, oM p2 i7 j7))] := hD
          refine lv_iload_n hx hb dX7_bears_66 rfl (lv_at hl 5 rfl) ?_
          refine lv_if_ne (tgt := 74) hx hb dX7_bears_67 (by decide) (fun c_12 => ?_) (fun c_12 => ?_)
          · have c_12 : ¬ p1.toInt = 0 := k_eqF rfl (by decide +kernel) c_12
            refine lv_iload_n hx hb dX7_bears_74 rfl (lv_at hl 5 rfl) ?_
            refine lv_iconst (v := 1) hx hb dX7_bears_75 (by decide +kernel) ?_
            refine lv_icmp_ne (tgt := 83) hx hb dX7_bears_76 (by decide) (fun c_13 => ?_) (fun c_13 => ?_)
            · have c_13 : ¬ p1.toInt = 1 := k_eqF rfl (by decide +kernel) c_13
              refine lv_iload hx hb dX7_bears_83 (lv_at hl 1 rfl) ?_
              exact k_ri B hP hD hS dX7_bears_85 (2, (fun _ => 0)) [0] rfl rfl rfl (Nat.le_of_ble_eq_true rfl) (Nat.le_of_ble_eq_true rfl) ⟨c_6, c_7, c_12, c_13, rfl⟩
            · have c_13 : p1.toInt = 1 := k_eqT rfl (by decide +kernel) c_13
              refine lv_iload_n hx hb dX7_bears_79 rfl (lv_at hl 2 rfl) ?_
              refine lv_goto (tgt := 85) hx hb dX7_bears_80 (by decide) ?_
              exact k_ri B hP hD hS dX7_bears_85 (3, (fun _ => 0)) [0] rfl rfl rfl (Nat.le_of_ble_eq_true rfl) (Nat.le_of_ble_eq_true rfl) ⟨c_6, c_7, c_12, c_13, rfl⟩
          · have c_12 : p1.toInt = 0 := k_eqT rfl (by decide +kernel) c_12
            refine lv_iload_n hx hb dX7_bears_70 rfl (lv_at hl 3 rfl) ?_
            refine lv_goto (tgt := 85) hx hb dX7_bears_71 (by decide) ?_
            exact k_ri B hP hD hS dX7_bears_85 (4, (fun _ => 0)) [0] rfl rfl rfl (Nat.le_of_ble_eq_true rfl) (Nat.le_of_ble_eq_true rfl) ⟨c_6, c_7, c_12, rfl⟩
        · have c_11 : (((kk_10 + 1) : Nat) : Int) ≤ 999 := k_ltF (by decide +kernel) (nI_toInt (by omega)) c_11
          refine lv_aload_n hx hb dX7_bears_29 rfl (lv_at hl 4 rfl) ?_
          refine lv_iload hx hb dX7_bears_30 (lv_at hl 0 rfl) ?_
          refine k_ci (wc := [(p0, .inr (7, oM p2 i7 j7))]) (wr := []) (fun hPc hDc hFc => va_runV (As := [.int (nI (kk_10 + 1))]) (rest := []) ⟨hx, hb, hml, hown, hts⟩ (c_X7_canBear_v1 l dC dI cI cJ cZ cM p0 kk_10 p2 (by omega) (by omega) H.size) (cwV 1 hts gX7_bears_X7_canBear rfl rfl rfl (by decide +kernel) ⟨(Nat.le_of_ble_eq_true rfl), (Nat.le_of_ble_eq_true rfl)⟩) (k_pV hPc hDc hK hN hC hS hFc hP (q0 := 0) (ci := 7) rfl rfl) rfl rfl hl.1 rfl (lv_room (Nat.le_of_ble_eq_true rfl)) dX7_bears_32 ⟨(Nat.le_of_ble_eq_true rfl), (Nat.le_of_ble_eq_true rfl)⟩) hP hD hS hA [0] [] rfl rfl rfl rfl (by decide) (fun _ => rfl) 0 0 rfl rfl (fun r_14 u_15 H locs hw hP hD hS => ?_)
          obtain rfl : r_14 = 1 := hw
          have hP : va_P (dC, dI) vwCl [(p0, .inr (7, oM p2 i7 j7))] H := hP
          have hD : va_D A [(p0, .inr (7, oM p2 i7 j7))] := hD
          refine lv_if_ne (tgt := 41) hx hb dX7_bears_35 (by decide) (fun _ => ?_) (fun q9 => absurd q9 (by decide +kernel))
          refine lv_iinc (v := (nI (kk_10 + 1))) (lv' := [(2, .int (nI (kk_10 + 1))), (5, .int (nI (kk_10 + 1))), (4, .int (nI kk_10)), (3, .int 1), (0, .ref p0), (1, .int p1)]) hx hb dX7_bears_41 hl (k := 3) rfl (nI_1 _) (by decide) rfl (fun ls hl => ?_)
          refine lv_iload_n hx hb dX7_bears_44 rfl (lv_at hl 3 rfl) ?_
          refine lv_iconst (v := (-1)) hx hb dX7_bears_45 (by decide +kernel) ?_
          refine lv_icmp_ne (tgt := 54) hx hb dX7_bears_46 (by decide) (fun _ => ?_) (fun q9 => absurd q9 (by decide +kernel))
          refine lv_iload_n hx hb dX7_bears_54 rfl (lv_at hl 3 rfl) ?_
          refine lv_istore_n (lv' := [(3, .int 1), (2, .int (nI (kk_10 + 1))), (5, .int (nI (kk_10 + 1))), (4, .int (nI kk_10)), (0, .ref p0), (1, .int p1)]) hx hb dX7_bears_55 rfl hl (by decide) rfl (fun ls hl => ?_)
          refine lv_iload hx hb dX7_bears_56 (lv_at hl 2 rfl) ?_
          refine lv_istore (lv' := [(4, .int (nI (kk_10 + 1))), (3, .int 1), (2, .int (nI (kk_10 + 1))), (5, .int (nI (kk_10 + 1))), (0, .ref p0), (1, .int p1)]) hx hb dX7_bears_58 hl (by decide) rfl (fun ls hl => ?_)
          refine lv_iinc (v := (nI ((kk_10 + 1) + 1))) (lv' := [(5, .int (nI ((kk_10 + 1) + 1))), (4, .int (nI (kk_10 + 1))), (3, .int 1), (2, .int (nI (kk_10 + 1))), (0, .ref p0), (1, .int p1)]) hx hb dX7_bears_60 hl (k := 3) rfl (nI_1 _) (by decide) rfl (fun ls hl => ?_)
          refine lv_goto (tgt := 21) hx hb dX7_bears_63 (by decide) ?_
          exact ih_k_10 (kk_10 + 1) (by omega) (by omega) (by omega) H locs ls (hP.sub [0] rfl) (hD.sub [0] (by decide) rfl) hS (lv_sub hl [0, 1, 2, 3, 4, 5] rfl)
    exact loop_k_10 _ 1 (by omega) (by omega) (Nat.lt_succ_self _) H locs ls hP hD hS hl
  · exact False.elim hw
set_option maxHeartbeats 4000000 in
set_option maxRecDepth 100000 in
theorem c_X6_namesWishes_v1 (l : Launch) (dC : Nat → ClassId) (dI : Nat → Nat → Nat) (cI cJ cZ cM : ClassId) (p0 : Nat)   : k_Mi l yX6_namesWishes wsX6_namesWishes ({ frames := 1, cells := 0, slots := 0, locals := 40 }) (dC, dI) vwCl (tyy cI cJ cZ cM) [] [.ref p0, .int 0, .int (-1)] 0 0 (fun (u9 : Unit) => []) (fun (r9 : Int32) (u9 : Unit) => r9 = 1) := by
  refine fun sz => k_enter (cc := cX6_namesWishes) (maxL := 4) (ret := some (.boolean)) (Qc := fun A => va_Qi (fun (r9 : Int32) (u9 : Unit) => r9 = 1) (fun u => k_B (dC, dI) vwCl (tyy cI cJ cZ cM) A ((fun (u9 : Unit) => []) u)) A) sz (by decide +kernel) rfl (Nat.le_of_ble_eq_true rfl) (fun p e s m args below meth c A ls H locs B hP hD hS hl => ?_)
  obtain ⟨hx, hb, hml, hown, hts, hr, hlk, hnm, hK, hA, hN, hC⟩ := id B
  have hown : s.vm.findClass RX6 = some m.cls := hown
  have hl : lv_has ls 4 [(0, .ref p0), (1, .int 0), (2, .int (-1))] := hl
  refine lv_iconst (v := 0) hx hb dX6_namesWishes_0 (by decide +kernel) ?_
  refine lv_istore_n (lv' := [(3, .int 0), (0, .ref p0), (1, .int 0), (2, .int (-1))]) hx hb dX6_namesWishes_1 rfl hl (by decide) rfl (fun ls hl => ?_)
  refine lv_iload_n hx hb dX6_namesWishes_2 rfl (lv_at hl 0 rfl) ?_
  refine lv_iload_n hx hb dX6_namesWishes_3 rfl (lv_at hl 2 rfl) ?_
  refine lv_icmp_ge (tgt := 47) hx hb dX6_namesWishes_4 (by decide) (fun _ => ?_) (fun q9 => absurd q9 (by decide +kernel))
  refine lv_iconst (v := 1) hx hb dX6_namesWishes_47 (by decide +kernel) ?_
  exact k_ri B hP hD hS dX6_namesWishes_48 () [] rfl rfl rfl (Nat.le_of_ble_eq_true rfl) (Nat.le_of_ble_eq_true rfl) rfl
set_option maxHeartbeats 4000000 in
set_option maxRecDepth 100000 in
theorem c_X6_mayAllBeSaid_v0 (l : Launch) (dC : Nat → ClassId) (dI : Nat → Nat → Nat) (cI cJ cZ cM : ClassId) (p0 : Nat) (p1 : Nat → Nat)   : k_Mi l yX6_mayAllBeSaid wsX6_mayAllBeSaid ({ frames := 3, cells := 0, slots := 0, locals := 85 }) (dC, dI) vwCl (tyy cI cJ cZ cM) [(p0, .inr (6, [.ref (p1 0), .int 0, .ref (p1 1), .ref (p1 14), .ref (p1 27), .ref (p1 28), .ref (p1 29), .ref (p1 30), .ref (p1 54), .null, .int 1, .int 1, .int 999, .ref (p1 61), .ref (p1 62), .ref (p1 63), .ref (p1 60)])), ((p1 28), .inr (0, [.int 0, .int 0, .int 0, .int 0])), ((p1 29), .inr (0, [.int 0, .int 0, .int 0, .int 0]))] [.ref p0, .int 0] 0 0 (fun (u9 : Unit) => [(p0, .inr (6, [.ref (p1 0), .int 0, .ref (p1 1), .ref (p1 14), .ref (p1 27), .ref (p1 28), .ref (p1 29), .ref (p1 30), .ref (p1 54), .null, .int 1, .int 1, .int 999, .ref (p1 61), .ref (p1 62), .ref (p1 63), .ref (p1 60)])), ((p1 28), .inr (0, [.int 0, .int 0, .int 0, .int 0])), ((p1 29), .inr (0, [.int 0, .int 0, .int 0, .int 0]))]) (fun (r9 : Int32) (u9 : Unit) => r9 = 1) := by
  refine fun sz => k_enter (cc := cX6_mayAllBeSaid) (maxL := 3) (ret := some (.boolean)) (Qc := fun A => va_Qi (fun (r9 : Int32) (u9 : Unit) => r9 = 1) (fun u => k_B (dC, dI) vwCl (tyy cI cJ cZ cM) A ((fun (u9 : Unit) => [(p0, .inr (6, [.ref (p1 0), .int 0, .ref (p1 1), .ref (p1 14), .ref (p1 27), .ref (p1 28), .ref (p1 29), .ref (p1 30), .ref (p1 54), .null, .int 1, .int 1, .int 999, .ref (p1 61), .ref (p1 62), .ref (p1 63), .ref (p1 60)])), ((p1 28), .inr (0, [.int 0, .int 0, .int 0, .int 0])), ((p1 29), .inr (0, [.int 0, .int 0, .int 0, .int 0]))]) u)) A) sz (by decide +kernel) rfl (Nat.le_of_ble_eq_true rfl) (fun p e s m args below meth c A ls H locs B hP hD hS hl => ?_)
  obtain ⟨hx, hb, hml, hown, hts, hr, hlk, hnm, hK, hA, hN, hC⟩ := id B
  have hown : s.vm.findClass RX6 = some m.cls := hown
  have hl : lv_has ls 3 [(0, .ref p0), (1, .int 0)] := hl
  have w_0 : (Cond.fieldLink RX6 39 "WishSea" "trial" "LWishSea$Moment;").before args s = true := hts _ (List.mem_of_getElem? (i := 1) rfl)
  have w_1 : (Cond.fieldLink RX6 35 "WishSea" "now" "LWishSea$Moment;").before args s = true := hts _ (List.mem_of_getElem? (i := 2) rfl)
  have hinX6 : ∀ w ∈ u_ws RX6 TX6 17, w ∈ wsX6_mayAllBeSaid := fun _ h => List.mem_cons_of_mem _ (List.mem_append_left _ (List.mem_append_left _ (List.mem_append_right _ h)))
  refine lv_aload_n hx hb dX6_mayAllBeSaid_0 rfl (lv_at hl 0 rfl) ?_
  refine k_get (D := (dC, dI)) (ci := 6) (v := .ref (p1 29)) (C := RX6) (T := TX6) (N := 17) hx hb hts hinX6 hown hK hP 0 rfl rfl 6 (by decide) w_0 rfl rfl dX6_mayAllBeSaid_1 ?_
  refine lv_aload_n hx hb dX6_mayAllBeSaid_4 rfl (lv_at hl 0 rfl) ?_
  refine k_get (D := (dC, dI)) (ci := 6) (v := .ref (p1 28)) (C := RX6) (T := TX6) (N := 17) hx hb hts hinX6 hown hK hP 0 rfl rfl 5 (by decide) w_1 rfl rfl dX6_mayAllBeSaid_5 ?_
  refine k_cv (wc := [((p1 28), .inr (0, [.int 0, .int 0, .int 0, .int 0])), ((p1 29), .inr (0, [.int 0, .int 0, .int 0, .int 0]))]) (wr := [(p0, .inr (6, [.ref (p1 0), .int 0, .ref (p1 1), .ref (p1 14), .ref (p1 27), .ref (p1 28), .ref (p1 29), .ref (p1 30), .ref (p1 54), .null, .int 1, .int 1, .int 999, .ref (p1 61), .ref (p1 62), .ref (p1 63), .ref (p1 60)]))]) (fun hPc hDc hFc => va_runV (As := [.ref (p1 28)]) (rest := []) ⟨hx, hb, hml, hown, hts⟩ (c_X0_take_v1 l dC dI cI cJ cZ cM p1 H.size) (cwV 1 hts gX6_mayAllBeSaid_X0_take rfl rfl rfl (by decide +kernel) ⟨(Nat.le_of_ble_eq_true rfl), (Nat.le_of_ble_eq_true rfl)⟩) (k_pV hPc hDc hK hN hC hS hFc hP (q0 := 2) (ci := 0) rfl rfl) rfl rfl hl.1 rfl (lv_room (Nat.le_of_ble_eq_true rfl)) dX6_mayAllBeSaid_8 ⟨(Nat.le_of_ble_eq_true rfl), (Nat.le_of_ble_eq_true rfl)⟩) hP hD hS hA [1, 2] [0] rfl rfl rfl rfl (by decide) (fun _ => rfl) 0 0 rfl rfl (fun u_2 H locs hw hP hD hS => ?_)
  have hP : va_P (dC, dI) vwCl [(p0, .inr (6, [.ref (p1 0), .int 0, .ref (p1 1), .ref (p1 14), .ref (p1 27), .ref (p1 28), .ref (p1 29), .ref (p1 30), .ref (p1 54), .null, .int 1, .int 1, .int 999, .ref (p1 61), .ref (p1 62), .ref (p1 63), .ref (p1 60)])), ((p1 28), .inr (0, [.int 0, .int 0, .int 0, .int 0])), ((p1 29), .inr (0, [.int 0, .int 0, .int 0, .int 0]))] H := hP
  have hD : va_D A [(p0, .inr (6, [.ref (p1 0), .int 0, .ref (p1 1), .ref (p1 14), .ref (p1 27), .ref (p1 28), .ref (p1 29), .ref (p1 30), .ref (p1 54), .null, .int 1, .int 1, .int 999, .ref (p1 61), .ref (p1 62), .ref (p1 63), .ref (p1 60)])), ((p1 28), .inr (0, [.int 0, .int 0, .int 0, .int 0])), ((p1 29), .inr (0, [.int 0, .int 0, .int 0, .int 0]))] := hD
  refine lv_iconst (v := 0) hx hb dX6_mayAllBeSaid_11 (by decide +kernel) ?_
  refine lv_istore_n (lv' := [(2, .int 0), (0, .ref p0), (1, .int 0)]) hx hb dX6_mayAllBeSaid_12 rfl hl (by decide) rfl (fun ls hl => ?_)
  refine lv_iload_n hx hb dX6_mayAllBeSaid_13 rfl (lv_at hl 0 rfl) ?_
  refine lv_iload_n hx hb dX6_mayAllBeSaid_14 rfl (lv_at hl 2 rfl) ?_
  refine lv_icmp_ge (tgt := 89) hx hb dX6_mayAllBeSaid_15 (by decide) (fun _ => ?_) (fun q9 => absurd q9 (by decide +kernel))
  refine lv_iconst (v := 1) hx hb dX6_mayAllBeSaid_89 (by decide +kernel) ?_
  exact k_ri B hP hD hS dX6_mayAllBeSaid_90 () [0, 1, 2] rfl rfl rfl (Nat.le_of_ble_eq_true rfl) (Nat.le_of_ble_eq_true rfl) rfl
set_option maxHeartbeats 4000000 in
set_option maxRecDepth 100000 in
theorem c_X6_bearsFrom_v1 (l : Launch) (dC : Nat → ClassId) (dI : Nat → Nat → Nat) (cI cJ cZ cM : ClassId) (p0 : Nat) (p1 : Nat → Nat)   : k_Mi l yX6_bearsFrom wsX6_bearsFrom ({ frames := 1, cells := 0, slots := 0, locals := 40 }) (dC, dI) vwCl (tyy cI cJ cZ cM) [(p0, .inr (6, [.ref (p1 0), .int 0, .ref (p1 1), .ref (p1 14), .ref (p1 27), .ref (p1 28), .ref (p1 29), .ref (p1 30), .ref (p1 54), .null, .int 1, .int 1, .int 999, .ref (p1 61), .ref (p1 62), .ref (p1 63), .ref (p1 60)]))] [.ref p0, .int 0] 0 0 (fun (u9 : Unit) => [(p0, .inr (6, [.ref (p1 0), .int 0, .ref (p1 1), .ref (p1 14), .ref (p1 27), .ref (p1 28), .ref (p1 29), .ref (p1 30), .ref (p1 54), .null, .int 1, .int 1, .int 999, .ref (p1 61), .ref (p1 62), .ref (p1 63), .ref (p1 60)]))]) (fun (r9 : Int32) (u9 : Unit) => r9 = 999) := by
  refine fun sz => k_enter (cc := cX6_bearsFrom) (maxL := 2) (ret := some (.int)) (Qc := fun A => va_Qi (fun (r9 : Int32) (u9 : Unit) => r9 = 999) (fun u => k_B (dC, dI) vwCl (tyy cI cJ cZ cM) A ((fun (u9 : Unit) => [(p0, .inr (6, [.ref (p1 0), .int 0, .ref (p1 1), .ref (p1 14), .ref (p1 27), .ref (p1 28), .ref (p1 29), .ref (p1 30), .ref (p1 54), .null, .int 1, .int 1, .int 999, .ref (p1 61), .ref (p1 62), .ref (p1 63), .ref (p1 60)]))]) u)) A) sz (by decide +kernel) rfl (Nat.le_of_ble_eq_true rfl) (fun p e s m args below meth c A ls H locs B hP hD hS hl => ?_)
  obtain ⟨hx, hb, hml, hown, hts, hr, hlk, hnm, hK, hA, hN, hC⟩ := id B
  have hown : s.vm.findClass RX6 = some m.cls := hown
  have hl : lv_has ls 2 [(0, .ref p0), (1, .int 0)] := hl
  have w_0 : (Cond.fieldLink RX6 65 "WishSea" "mostBears" "I").before args s = true := hts _ (List.mem_of_getElem? (i := 1) rfl)
  have w_1 : (Cond.fieldLink RX6 62 "WishSea" "leastBears" "I").before args s = true := hts _ (List.mem_of_getElem? (i := 2) rfl)
  have w_2 : (Cond.methodLink RX6 255 Lib.Math.max.name).before args s = true := hts _ (List.mem_of_getElem? (i := 3) rfl)
  have w_3 : (Cond.static Lib.Math.max.name).before args s = true := hts _ (List.mem_of_getElem? (i := 4) rfl)
  have w_4 : (Cond.initialized "java/lang/Math").before args s = true := hts _ (List.mem_of_getElem? (i := 5) rfl)
  have w_5 : (Cond.code Lib.Math.max.name Lib.Math.max.code 2 (some .int)).before args s = true := hts _ (List.mem_of_getElem? (i := 6) rfl)
  have hinX6 : ∀ w ∈ u_ws RX6 TX6 17, w ∈ wsX6_bearsFrom := fun _ h => List.mem_cons_of_mem _ (List.mem_append_right _ h)
  refine lv_iconst (v := 0) hx hb dX6_bearsFrom_0 (by decide +kernel) ?_
  refine lv_aload_n hx hb dX6_bearsFrom_1 rfl (lv_at hl 0 rfl) ?_
  refine k_get (D := (dC, dI)) (ci := 6) (v := .int 999) (C := RX6) (T := TX6) (N := 17) hx hb hts hinX6 hown hK hP 0 rfl rfl 12 (by decide) w_0 rfl rfl dX6_bearsFrom_2 ?_
  refine lv_aload_n hx hb dX6_bearsFrom_5 rfl (lv_at hl 0 rfl) ?_
  refine k_get (D := (dC, dI)) (ci := 6) (v := .int 1) (C := RX6) (T := TX6) (N := 17) hx hb hts hinX6 hown hK hP 0 rfl rfl 11 (by decide) w_1 rfl rfl dX6_bearsFrom_6 ?_
  refine lv_iload_n hx hb dX6_bearsFrom_9 rfl (lv_at hl 1 rfl) ?_
  refine va_mmax hx hb (hml.trans hl.1.symm) hown w_2 w_3 w_4 w_5 (Nat.le_of_ble_eq_true rfl) (Nat.le_of_ble_eq_true rfl) (Nat.le_of_ble_eq_true rfl) (Nat.le_of_ble_eq_true rfl) dX6_bearsFrom_10 ?_
  refine k_int (v := 1) (by decide +kernel) ?_
  refine lv_isub hx hb dX6_bearsFrom_13 ?_
  refine k_int (v := 998) (by decide +kernel) ?_
  refine lv_iconst (v := 1) hx hb dX6_bearsFrom_14 (by decide +kernel) ?_
  refine lv_iadd hx hb dX6_bearsFrom_15 ?_
  refine k_int (v := 999) (by decide +kernel) ?_
  refine va_mmax hx hb (hml.trans hl.1.symm) hown w_2 w_3 w_4 w_5 (Nat.le_of_ble_eq_true rfl) (Nat.le_of_ble_eq_true rfl) (Nat.le_of_ble_eq_true rfl) (Nat.le_of_ble_eq_true rfl) dX6_bearsFrom_16 ?_
  refine k_int (v := 999) (by decide +kernel) ?_
  exact k_ri B hP hD hS dX6_bearsFrom_19 () [0] rfl rfl rfl (Nat.le_of_ble_eq_true rfl) (Nat.le_of_ble_eq_true rfl) rfl
set_option maxHeartbeats 4000000 in
set_option maxRecDepth 100000 in
theorem c_X6_valueOf_v0 (l : Launch) (dC : Nat → ClassId) (dI : Nat → Nat → Nat) (cI cJ cZ cM : ClassId) (p0 : Nat) (p1 : Nat → Nat)   : k_Ml l yX6_valueOf wsX6_valueOf ({ frames := 2, cells := 0, slots := 0, locals := 63 }) (dC, dI) vwCl (tyy cI cJ cZ cM) [(p0, .inr (6, [.ref (p1 0), .int 0, .ref (p1 1), .ref (p1 14), .ref (p1 27), .ref (p1 28), .ref (p1 29), .ref (p1 30), .ref (p1 54), .null, .int 1, .int 1, .int 999, .ref (p1 61), .ref (p1 62), .ref (p1 63), .ref (p1 60)])), ((p1 1), .inr (5, [.ref (p1 2), .ref (p1 3), .ref (p1 4), .ref (p1 5), .ref (p1 6), .ref (p1 7), .ref (p1 8), .ref (p1 9), .ref (p1 10), .ref (p1 11), .ref (p1 12), .ref (p1 13), .int 0, .int 0, .int 0, .int 0, .int 0, .int 100, .int 0, .int 0]))] [.ref p0, .int 0, .int 0] 0 0 (fun (u9 : Unit) => [(p0, .inr (6, [.ref (p1 0), .int 0, .ref (p1 1), .ref (p1 14), .ref (p1 27), .ref (p1 28), .ref (p1 29), .ref (p1 30), .ref (p1 54), .null, .int 1, .int 1, .int 999, .ref (p1 61), .ref (p1 62), .ref (p1 63), .ref (p1 60)])), ((p1 1), .inr (5, [.ref (p1 2), .ref (p1 3), .ref (p1 4), .ref (p1 5), .ref (p1 6), .ref (p1 7), .ref (p1 8), .ref (p1 9), .ref (p1 10), .ref (p1 11), .ref (p1 12), .ref (p1 13), .int 0, .int 0, .int 0, .int 0, .int 0, .int 100, .int 0, .int 0]))]) (fun (r9 : Int64) (u9 : Unit) => r9 = 0) := by
  refine fun sz => k_enter (cc := cX6_valueOf) (maxL := 7) (ret := some (.long)) (Qc := fun A => va_Ql (fun (r9 : Int64) (u9 : Unit) => r9 = 0) (fun u => k_B (dC, dI) vwCl (tyy cI cJ cZ cM) A ((fun (u9 : Unit) => [(p0, .inr (6, [.ref (p1 0), .int 0, .ref (p1 1), .ref (p1 14), .ref (p1 27), .ref (p1 28), .ref (p1 29), .ref (p1 30), .ref (p1 54), .null, .int 1, .int 1, .int 999, .ref (p1 61), .ref (p1 62), .ref (p1 63), .ref (p1 60)])), ((p1 1), .inr (5, [.ref (p1 2), .ref (p1 3), .ref (p1 4), .ref (p1 5), .ref (p1 6), .ref (p1 7), .ref (p1 8), .ref (p1 9), .ref (p1 10), .ref (p1 11), .ref (p1 12), .ref (p1 13), .int 0, .int 0, .int 0, .int 0, .int 0, .int 100, .int 0, .int 0]))]) u)) A) sz (by decide +kernel) rfl (Nat.le_of_ble_eq_true rfl) (fun p e s m args below meth c A ls H locs B hP hD hS hl => ?_)
  obtain ⟨hx, hb, hml, hown, hts, hr, hlk, hnm, hK, hA, hN, hC⟩ := id B
  have hown : s.vm.findClass RX6 = some m.cls := hown
  have hl : lv_has ls 7 [(0, .ref p0), (1, .int 0), (2, .int 0)] := hl
  have w_0 : (Cond.fieldLink RX6 62 "WishSea" "leastBears" "I").before args s = true := hts _ (List.mem_of_getElem? (i := 1) rfl)
  have w_1 : (Cond.fieldLink RX6 16 "WishSea" "live" "LWishSea$Shore;").before args s = true := hts _ (List.mem_of_getElem? (i := 2) rfl)
  have w_2 : (Cond.fieldLink RX6 195 "WishSea$Shore" "first" "I").before args s = true := hts _ (List.mem_of_getElem? (i := 3) rfl)
  have hinX6 : ∀ w ∈ u_ws RX6 TX6 17, w ∈ wsX6_valueOf := fun _ h => List.mem_cons_of_mem _ (List.mem_append_left _ (List.mem_append_right _ h))
  have hinX5 : ∀ w ∈ u_ws RX5 TX5 20, w ∈ wsX6_valueOf := fun _ h => List.mem_cons_of_mem _ (List.mem_append_right _ h)
  refine lv_aload_n hx hb dX6_valueOf_0 rfl (lv_at hl 0 rfl) ?_
  refine lv_iload_n hx hb dX6_valueOf_1 rfl (lv_at hl 2 rfl) ?_
  refine k_ci (wc := [(p0, .inr (6, [.ref (p1 0), .int 0, .ref (p1 1), .ref (p1 14), .ref (p1 27), .ref (p1 28), .ref (p1 29), .ref (p1 30), .ref (p1 54), .null, .int 1, .int 1, .int 999, .ref (p1 61), .ref (p1 62), .ref (p1 63), .ref (p1 60)]))]) (wr := [((p1 1), .inr (5, [.ref (p1 2), .ref (p1 3), .ref (p1 4), .ref (p1 5), .ref (p1 6), .ref (p1 7), .ref (p1 8), .ref (p1 9), .ref (p1 10), .ref (p1 11), .ref (p1 12), .ref (p1 13), .int 0, .int 0, .int 0, .int 0, .int 0, .int 100, .int 0, .int 0]))]) (fun hPc hDc hFc => va_runV (As := [.int 0]) (rest := []) ⟨hx, hb, hml, hown, hts⟩ (c_X6_bearsFrom_v1 l dC dI cI cJ cZ cM p0 p1 H.size) (cwV 1 hts gX6_valueOf_X6_bearsFrom rfl rfl rfl (by decide +kernel) ⟨(Nat.le_of_ble_eq_true rfl), (Nat.le_of_ble_eq_true rfl)⟩) (k_pV hPc hDc hK hN hC hS hFc hP (q0 := 0) (ci := 6) rfl rfl) rfl rfl hl.1 rfl (lv_room (Nat.le_of_ble_eq_true rfl)) dX6_valueOf_2 ⟨(Nat.le_of_ble_eq_true rfl), (Nat.le_of_ble_eq_true rfl)⟩) hP hD hS hA [0] [1] rfl rfl rfl rfl (by decide) (fun _ => rfl) 0 0 rfl rfl (fun r_1 u_2 H locs hw hP hD hS => ?_)
  obtain rfl : r_1 = 999 := hw
  have hP : va_P (dC, dI) vwCl [((p1 1), .inr (5, [.ref (p1 2), .ref (p1 3), .ref (p1 4), .ref (p1 5), .ref (p1 6), .ref (p1 7), .ref (p1 8), .ref (p1 9), .ref (p1 10), .ref (p1 11), .ref (p1 12), .ref (p1 13), .int 0, .int 0, .int 0, .int 0, .int 0, .int 100, .int 0, .int 0])), (p0, .inr (6, [.ref (p1 0), .int 0, .ref (p1 1), .ref (p1 14), .ref (p1 27), .ref (p1 28), .ref (p1 29), .ref (p1 30), .ref (p1 54), .null, .int 1, .int 1, .int 999, .ref (p1 61), .ref (p1 62), .ref (p1 63), .ref (p1 60)]))] H := hP
  have hD : va_D A [((p1 1), .inr (5, [.ref (p1 2), .ref (p1 3), .ref (p1 4), .ref (p1 5), .ref (p1 6), .ref (p1 7), .ref (p1 8), .ref (p1 9), .ref (p1 10), .ref (p1 11), .ref (p1 12), .ref (p1 13), .int 0, .int 0, .int 0, .int 0, .int 0, .int 100, .int 0, .int 0])), (p0, .inr (6, [.ref (p1 0), .int 0, .ref (p1 1), .ref (p1 14), .ref (p1 27), .ref (p1 28), .ref (p1 29), .ref (p1 30), .ref (p1 54), .null, .int 1, .int 1, .int 999, .ref (p1 61), .ref (p1 62), .ref (p1 63), .ref (p1 60)]))] := hD
  refine lv_i2l (v := 999) hx hb dX6_valueOf_5 (by decide +kernel) ?_
  refine lv_lstore_n (lv' := [(3, .long 999), (0, .ref p0), (1, .int 0), (2, .int 0)]) hx hb dX6_valueOf_6 rfl hl (by decide) rfl (fun ls hl => ?_)
  refine lv_aload_n hx hb dX6_valueOf_7 rfl (lv_at hl 1 rfl) ?_
  refine lv_aload_n hx hb dX6_valueOf_8 rfl (lv_at hl 1 rfl) ?_
  refine k_get (D := (dC, dI)) (ci := 6) (v := .int 1) (C := RX6) (T := TX6) (N := 17) hx hb hts hinX6 hown hK hP 1 rfl rfl 11 (by decide) w_0 rfl rfl dX6_valueOf_9 ?_
  refine k_ci (wc := [(p0, .inr (6, [.ref (p1 0), .int 0, .ref (p1 1), .ref (p1 14), .ref (p1 27), .ref (p1 28), .ref (p1 29), .ref (p1 30), .ref (p1 54), .null, .int 1, .int 1, .int 999, .ref (p1 61), .ref (p1 62), .ref (p1 63), .ref (p1 60)]))]) (wr := [((p1 1), .inr (5, [.ref (p1 2), .ref (p1 3), .ref (p1 4), .ref (p1 5), .ref (p1 6), .ref (p1 7), .ref (p1 8), .ref (p1 9), .ref (p1 10), .ref (p1 11), .ref (p1 12), .ref (p1 13), .int 0, .int 0, .int 0, .int 0, .int 0, .int 100, .int 0, .int 0]))]) (fun hPc hDc hFc => va_runV (As := [.int 1]) (rest := []) ⟨hx, hb, hml, hown, hts⟩ (c_X6_bearsFrom_v0 l dC dI cI cJ cZ cM p0 p1 H.size) (cwV 1 hts gX6_valueOf_X6_bearsFrom rfl rfl rfl (by decide +kernel) ⟨(Nat.le_of_ble_eq_true rfl), (Nat.le_of_ble_eq_true rfl)⟩) (k_pV hPc hDc hK hN hC hS hFc hP (q0 := 1) (ci := 6) rfl rfl) rfl rfl hl.1 rfl (lv_room (Nat.le_of_ble_eq_true rfl)) dX6_valueOf_12 ⟨(Nat.le_of_ble_eq_true rfl), (Nat.le_of_ble_eq_true rfl)⟩) hP hD hS hA [1] [0] rfl rfl rfl rfl (by decide) (fun _ => rfl) 0 0 rfl rfl (fun r_3 u_4 H locs hw hP hD hS => ?_)
  obtain rfl : r_3 = 999 := hw
  have hP : va_P (dC, dI) vwCl [((p1 1), .inr (5, [.ref (p1 2), .ref (p1 3), .ref (p1 4), .ref (p1 5), .ref (p1 6), .ref (p1 7), .ref (p1 8), .ref (p1 9), .ref (p1 10), .ref (p1 11), .ref (p1 12), .ref (p1 13), .int 0, .int 0, .int 0, .int 0, .int 0, .int 100, .int 0, .int 0])), (p0, .inr (6, [.ref (p1 0), .int 0, .ref (p1 1), .ref (p1 14), .ref (p1 27), .ref (p1 28), .ref (p1 29), .ref (p1 30), .ref (p1 54), .null, .int 1, .int 1, .int 999, .ref (p1 61), .ref (p1 62), .ref (p1 63), .ref (p1 60)]))] H := hP
  have hD : va_D A [((p1 1), .inr (5, [.ref (p1 2), .ref (p1 3), .ref (p1 4), .ref (p1 5), .ref (p1 6), .ref (p1 7), .ref (p1 8), .ref (p1 9), .ref (p1 10), .ref (p1 11), .ref (p1 12), .ref (p1 13), .int 0, .int 0, .int 0, .int 0, .int 0, .int 100, .int 0, .int 0])), (p0, .inr (6, [.ref (p1 0), .int 0, .ref (p1 1), .ref (p1 14), .ref (p1 27), .ref (p1 28), .ref (p1 29), .ref (p1 30), .ref (p1 54), .null, .int 1, .int 1, .int 999, .ref (p1 61), .ref (p1 62), .ref (p1 63), .ref (p1 60)]))] := hD
  refine lv_i2l (v := 999) hx hb dX6_valueOf_15 (by decide +kernel) ?_
  refine lv_lload_n hx hb dX6_valueOf_16 rfl (lv_at hl 0 rfl) ?_
  refine lv_lsub hx hb dX6_valueOf_17 ?_
  refine k_long (v := 0) (by decide +kernel) ?_
  refine lv_lstore (lv' := [(5, .long 0), (3, .long 999), (0, .ref p0), (1, .int 0), (2, .int 0)]) hx hb dX6_valueOf_18 hl (by decide) rfl (fun ls hl => ?_)
  refine lv_lload_n hx hb dX6_valueOf_20 rfl (lv_at hl 1 rfl) ?_
  refine lv_aload_n hx hb dX6_valueOf_21 rfl (lv_at hl 2 rfl) ?_
  refine k_get (D := (dC, dI)) (ci := 6) (v := .ref (p1 1)) (C := RX6) (T := TX6) (N := 17) hx hb hts hinX6 hown hK hP 1 rfl rfl 2 (by decide) w_1 rfl rfl dX6_valueOf_22 ?_
  refine lv_iload_n hx hb dX6_valueOf_25 rfl (lv_at hl 3 rfl) ?_
  refine k_ci (wc := [((p1 1), .inr (5, [.ref (p1 2), .ref (p1 3), .ref (p1 4), .ref (p1 5), .ref (p1 6), .ref (p1 7), .ref (p1 8), .ref (p1 9), .ref (p1 10), .ref (p1 11), .ref (p1 12), .ref (p1 13), .int 0, .int 0, .int 0, .int 0, .int 0, .int 100, .int 0, .int 0]))]) (wr := [(p0, .inr (6, [.ref (p1 0), .int 0, .ref (p1 1), .ref (p1 14), .ref (p1 27), .ref (p1 28), .ref (p1 29), .ref (p1 30), .ref (p1 54), .null, .int 1, .int 1, .int 999, .ref (p1 61), .ref (p1 62), .ref (p1 63), .ref (p1 60)]))]) (fun hPc hDc hFc => va_runV (As := [.int 0]) (rest := [.long 999]) ⟨hx, hb, hml, hown, hts⟩ (c_X5_worthOf_v0 l dC dI cI cJ cZ cM p1 H.size) (cwV 1 hts gX6_valueOf_X5_worthOf rfl rfl rfl (by decide +kernel) ⟨(Nat.le_of_ble_eq_true rfl), (Nat.le_of_ble_eq_true rfl)⟩) (k_pV hPc hDc hK hN hC hS hFc hP (q0 := 0) (ci := 5) rfl rfl) rfl rfl hl.1 rfl (lv_room (Nat.le_of_ble_eq_true rfl)) dX6_valueOf_26 ⟨(Nat.le_of_ble_eq_true rfl), (Nat.le_of_ble_eq_true rfl)⟩) hP hD hS hA [0] [1] rfl rfl rfl rfl (by decide) (fun _ => rfl) 0 0 rfl rfl (fun r_5 u_6 H locs hw hP hD hS => ?_)
  obtain rfl : r_5 = 0 := hw
  have hP : va_P (dC, dI) vwCl [(p0, .inr (6, [.ref (p1 0), .int 0, .ref (p1 1), .ref (p1 14), .ref (p1 27), .ref (p1 28), .ref (p1 29), .ref (p1 30), .ref (p1 54), .null, .int 1, .int 1, .int 999, .ref (p1 61), .ref (p1 62), .ref (p1 63), .ref (p1 60)])), ((p1 1), .inr (5, [.ref (p1 2), .ref (p1 3), .ref (p1 4), .ref (p1 5), .ref (p1 6), .ref (p1 7), .ref (p1 8), .ref (p1 9), .ref (p1 10), .ref (p1 11), .ref (p1 12), .ref (p1 13), .int 0, .int 0, .int 0, .int 0, .int 0, .int 100, .int 0, .int 0]))] H := hP
  have hD : va_D A [(p0, .inr (6, [.ref (p1 0), .int 0, .ref (p1 1), .ref (p1 14), .ref (p1 27), .ref (p1 28), .ref (p1 29), .ref (p1 30), .ref (p1 54), .null, .int 1, .int 1, .int 999, .ref (p1 61), .ref (p1 62), .ref (p1 63), .ref (p1 60)])), ((p1 1), .inr (5, [.ref (p1 2), .ref (p1 3), .ref (p1 4), .ref (p1 5), .ref (p1 6), .ref (p1 7), .ref (p1 8), .ref (p1 9), .ref (p1 10), .ref (p1 11), .ref (p1 12), .ref (p1 13), .int 0, .int 0, .int 0, .int 0, .int 0, .int 100, .int 0, .int 0]))] := hD
  refine lv_i2l (v := 0) hx hb dX6_valueOf_29 (by decide +kernel) ?_
  refine lv_lmul hx hb dX6_valueOf_30 ?_
  refine k_long (v := 0) (by decide +kernel) ?_
  refine lv_lload hx hb dX6_valueOf_31 (lv_at hl 0 rfl) ?_
  refine lv_aload_n hx hb dX6_valueOf_33 rfl (lv_at hl 2 rfl) ?_
  refine k_get (D := (dC, dI)) (ci := 6) (v := .ref (p1 1)) (C := RX6) (T := TX6) (N := 17) hx hb hts hinX6 hown hK hP 0 rfl rfl 2 (by decide) w_1 rfl rfl dX6_valueOf_34 ?_
  refine lv_aload_n hx hb dX6_valueOf_37 rfl (lv_at hl 2 rfl) ?_
  refine k_get (D := (dC, dI)) (ci := 6) (v := .ref (p1 1)) (C := RX6) (T := TX6) (N := 17) hx hb hts hinX6 hown hK hP 0 rfl rfl 2 (by decide) w_1 rfl rfl dX6_valueOf_38 ?_
  refine k_get (D := (dC, dI)) (ci := 5) (v := .int 0) (C := RX5) (T := TX5) (N := 20) hx hb hts hinX5 hown hK hP 1 rfl rfl 16 (by decide) w_2 rfl rfl dX6_valueOf_41 ?_
  refine k_ci (wc := [((p1 1), .inr (5, [.ref (p1 2), .ref (p1 3), .ref (p1 4), .ref (p1 5), .ref (p1 6), .ref (p1 7), .ref (p1 8), .ref (p1 9), .ref (p1 10), .ref (p1 11), .ref (p1 12), .ref (p1 13), .int 0, .int 0, .int 0, .int 0, .int 0, .int 100, .int 0, .int 0]))]) (wr := [(p0, .inr (6, [.ref (p1 0), .int 0, .ref (p1 1), .ref (p1 14), .ref (p1 27), .ref (p1 28), .ref (p1 29), .ref (p1 30), .ref (p1 54), .null, .int 1, .int 1, .int 999, .ref (p1 61), .ref (p1 62), .ref (p1 63), .ref (p1 60)]))]) (fun hPc hDc hFc => va_runV (As := [.int 0]) (rest := [.long 0, .long 0]) ⟨hx, hb, hml, hown, hts⟩ (c_X5_worthOf_v0 l dC dI cI cJ cZ cM p1 H.size) (cwV 1 hts gX6_valueOf_X5_worthOf rfl rfl rfl (by decide +kernel) ⟨(Nat.le_of_ble_eq_true rfl), (Nat.le_of_ble_eq_true rfl)⟩) (k_pV hPc hDc hK hN hC hS hFc hP (q0 := 1) (ci := 5) rfl rfl) rfl rfl hl.1 rfl (lv_room (Nat.le_of_ble_eq_true rfl)) dX6_valueOf_44 ⟨(Nat.le_of_ble_eq_true rfl), (Nat.le_of_ble_eq_true rfl)⟩) hP hD hS hA [1] [0] rfl rfl rfl rfl (by decide) (fun _ => rfl) 0 0 rfl rfl (fun r_7 u_8 H locs hw hP hD hS => ?_)
  obtain rfl : r_7 = 0 := hw
  have hP : va_P (dC, dI) vwCl [(p0, .inr (6, [.ref (p1 0), .int 0, .ref (p1 1), .ref (p1 14), .ref (p1 27), .ref (p1 28), .ref (p1 29), .ref (p1 30), .ref (p1 54), .null, .int 1, .int 1, .int 999, .ref (p1 61), .ref (p1 62), .ref (p1 63), .ref (p1 60)])), ((p1 1), .inr (5, [.ref (p1 2), .ref (p1 3), .ref (p1 4), .ref (p1 5), .ref (p1 6), .ref (p1 7), .ref (p1 8), .ref (p1 9), .ref (p1 10), .ref (p1 11), .ref (p1 12), .ref (p1 13), .int 0, .int 0, .int 0, .int 0, .int 0, .int 100, .int 0, .int 0]))] H := hP
  have hD : va_D A [(p0, .inr (6, [.ref (p1 0), .int 0, .ref (p1 1), .ref (p1 14), .ref (p1 27), .ref (p1 28), .ref (p1 29), .ref (p1 30), .ref (p1 54), .null, .int 1, .int 1, .int 999, .ref (p1 61), .ref (p1 62), .ref (p1 63), .ref (p1 60)])), ((p1 1), .inr (5, [.ref (p1 2), .ref (p1 3), .ref (p1 4), .ref (p1 5), .ref (p1 6), .ref (p1 7), .ref (p1 8), .ref (p1 9), .ref (p1 10), .ref (p1 11), .ref (p1 12), .ref (p1 13), .int 0, .int 0, .int 0, .int 0, .int 0, .int 100, .int 0, .int 0]))] := hD
  refine lv_i2l (v := 0) hx hb dX6_valueOf_47 (by decide +kernel) ?_
  refine lv_lmul hx hb dX6_valueOf_48 ?_
  refine k_long (v := 0) (by decide +kernel) ?_
  refine lv_ladd hx hb dX6_valueOf_49 ?_
  refine k_long (v := 0) (by decide +kernel) ?_
  exact k_rl B hP hD hS dX6_valueOf_50 () [0, 1] rfl rfl (Nat.le_of_ble_eq_true rfl) (Nat.le_of_ble_eq_true rfl) rfl
set_option maxHeartbeats 4000000 in
set_option maxRecDepth 100000 in
theorem c_X6_stop_v0 (l : Launch) (dC : Nat → ClassId) (dI : Nat → Nat → Nat) (cI cJ cZ cM : ClassId) (p0 : Nat) (p1 : Nat → Nat)   : k_Mi l yX6_stop wsX6_stop ({ frames := 4, cells := 0, slots := 0, locals := 107 }) (dC, dI) vwCl (tyy cI cJ cZ cM) [(p0, .inr (6, [.ref (p1 0), .int 0, .ref (p1 1), .ref (p1 14), .ref (p1 27), .ref (p1 28), .ref (p1 29), .ref (p1 30), .ref (p1 54), .null, .int 1, .int 1, .int 999, .ref (p1 61), .ref (p1 62), .ref (p1 63), .ref (p1 60)])), ((p1 28), .inr (0, [.int 0, .int 0, .int 0, .int 0])), ((p1 29), .inr (0, [.int 0, .int 0, .int 0, .int 0])), ((p1 62), .inl (cJ, 13, .inr (.inl (fun _ => (-1))))), ((p1 1), .inr (5, [.ref (p1 2), .ref (p1 3), .ref (p1 4), .ref (p1 5), .ref (p1 6), .ref (p1 7), .ref (p1 8), .ref (p1 9), .ref (p1 10), .ref (p1 11), .ref (p1 12), .ref (p1 13), .int 0, .int 0, .int 0, .int 0, .int 0, .int 100, .int 0, .int 0]))] [.ref p0] 0 0 (fun (u9 : Unit) => [(p0, .inr (6, [.ref (p1 0), .int 0, .ref (p1 1), .ref (p1 14), .ref (p1 27), .ref (p1 28), .ref (p1 29), .ref (p1 30), .ref (p1 54), .null, .int 1, .int 1, .int 999, .ref (p1 61), .ref (p1 62), .ref (p1 63), .ref (p1 60)])), ((p1 28), .inr (0, [.int 0, .int 0, .int 0, .int 0])), ((p1 29), .inr (0, [.int 0, .int 0, .int 0, .int 0])), ((p1 62), .inl (cJ, 13, .inr (.inl (vp_updL (fun _ => (-1)) 0 0)))), ((p1 1), .inr (5, [.ref (p1 2), .ref (p1 3), .ref (p1 4), .ref (p1 5), .ref (p1 6), .ref (p1 7), .ref (p1 8), .ref (p1 9), .ref (p1 10), .ref (p1 11), .ref (p1 12), .ref (p1 13), .int 0, .int 0, .int 0, .int 0, .int 0, .int 100, .int 0, .int 0]))]) (fun (r9 : Int32) (u9 : Unit) => r9 = 0) := by
  refine fun sz => k_enter (cc := cX6_stop) (maxL := 5) (ret := some (.int)) (Qc := fun A => va_Qi (fun (r9 : Int32) (u9 : Unit) => r9 = 0) (fun u => k_B (dC, dI) vwCl (tyy cI cJ cZ cM) A ((fun (u9 : Unit) => [(p0, .inr (6, [.ref (p1 0), .int 0, .ref (p1 1), .ref (p1 14), .ref (p1 27), .ref (p1 28), .ref (p1 29), .ref (p1 30), .ref (p1 54), .null, .int 1, .int 1, .int 999, .ref (p1 61), .ref (p1 62), .ref (p1 63), .ref (p1 60)])), ((p1 28), .inr (0, [.int 0, .int 0, .int 0, .int 0])), ((p1 29), .inr (0, [.int 0, .int 0, .int 0, .int 0])), ((p1 62), .inl (cJ, 13, .inr (.inl (vp_updL (fun _ => (-1)) 0 0)))), ((p1 1), .inr (5, [.ref (p1 2), .ref (p1 3), .ref (p1 4), .ref (p1 5), .ref (p1 6), .ref (p1 7), .ref (p1 8), .ref (p1 9), .ref (p1 10), .ref (p1 11), .ref (p1 12), .ref (p1 13), .int 0, .int 0, .int 0, .int 0, .int 0, .int 100, .int 0, .int 0]))]) u)) A) sz (by decide +kernel) rfl (Nat.le_of_ble_eq_true rfl) (fun p e s m args below meth c A ls H locs B hP hD hS hl => ?_)
  obtain ⟨hx, hb, hml, hown, hts, hr, hlk, hnm, hK, hA, hN, hC⟩ := id B
  have hown : s.vm.findClass RX6 = some m.cls := hown
  have hl : lv_has ls 5 [(0, .ref p0)] := hl
  have w_0 : (Cond.fieldLink RX6 62 "WishSea" "leastBears" "I").before args s = true := hts _ (List.mem_of_getElem? (i := 1) rfl)
  have w_1 : (Cond.fieldLink RX6 71 "WishSea" "values" "[J").before args s = true := hts _ (List.mem_of_getElem? (i := 2) rfl)
  have w_2 : (Cond.constantLong RX6 87 (-1)).before args s = true := hts _ (List.mem_of_getElem? (i := 3) rfl)
  have w_3 : (Cond.fieldLink RX6 39 "WishSea" "trial" "LWishSea$Moment;").before args s = true := hts _ (List.mem_of_getElem? (i := 4) rfl)
  have w_4 : (Cond.fieldLink RX6 35 "WishSea" "now" "LWishSea$Moment;").before args s = true := hts _ (List.mem_of_getElem? (i := 5) rfl)
  have w_5 : (Cond.fieldLink RX6 136 "WishSea$Moment" "things" "I").before args s = true := hts _ (List.mem_of_getElem? (i := 13) rfl)
  have hinX6 : ∀ w ∈ u_ws RX6 TX6 17, w ∈ wsX6_stop := fun _ h => List.mem_cons_of_mem _ (List.mem_append_left _ (List.mem_append_left _ (List.mem_append_right _ h)))
  have hinX0 : ∀ w ∈ u_ws RX0 TX0 4, w ∈ wsX6_stop := fun _ h => List.mem_cons_of_mem _ (List.mem_append_left _ (List.mem_append_right _ h))
  refine lv_aload_n hx hb dX6_stop_0 rfl (lv_at hl 0 rfl) ?_
  refine k_ci (wc := [(p0, .inr (6, [.ref (p1 0), .int 0, .ref (p1 1), .ref (p1 14), .ref (p1 27), .ref (p1 28), .ref (p1 29), .ref (p1 30), .ref (p1 54), .null, .int 1, .int 1, .int 999, .ref (p1 61), .ref (p1 62), .ref (p1 63), .ref (p1 60)]))]) (wr := [((p1 28), .inr (0, [.int 0, .int 0, .int 0, .int 0])), ((p1 29), .inr (0, [.int 0, .int 0, .int 0, .int 0])), ((p1 62), .inl (cJ, 13, .inr (.inl (fun _ => (-1))))), ((p1 1), .inr (5, [.ref (p1 2), .ref (p1 3), .ref (p1 4), .ref (p1 5), .ref (p1 6), .ref (p1 7), .ref (p1 8), .ref (p1 9), .ref (p1 10), .ref (p1 11), .ref (p1 12), .ref (p1 13), .int 0, .int 0, .int 0, .int 0, .int 0, .int 100, .int 0, .int 0]))]) (fun hPc hDc hFc => va_runV (As := []) (rest := []) ⟨hx, hb, hml, hown, hts⟩ (c_X6_takeTape_v0 l dC dI cI cJ cZ cM p0 p1 H.size) (cwV 0 hts gX6_stop_X6_takeTape rfl rfl rfl (by decide +kernel) ⟨(Nat.le_of_ble_eq_true rfl), (Nat.le_of_ble_eq_true rfl)⟩) (k_pV hPc hDc hK hN hC hS hFc hP (q0 := 0) (ci := 6) rfl rfl) rfl rfl hl.1 rfl (lv_room (Nat.le_of_ble_eq_true rfl)) dX6_stop_1 ⟨(Nat.le_of_ble_eq_true rfl), (Nat.le_of_ble_eq_true rfl)⟩) hP hD hS hA [0] [1, 2, 3, 4] rfl rfl rfl rfl (by decide) (fun _ => rfl) 0 0 rfl rfl (fun r_1 u_2 H locs hw hP hD hS => ?_)
  obtain rfl : r_1 = 0 := hw
  have hP : va_P (dC, dI) vwCl [((p1 28), .inr (0, [.int 0, .int 0, .int 0, .int 0])), ((p1 29), .inr (0, [.int 0, .int 0, .int 0, .int 0])), ((p1 62), .inl (cJ, 13, .inr (.inl (fun _ => (-1))))), ((p1 1), .inr (5, [.ref (p1 2), .ref (p1 3), .ref (p1 4), .ref (p1 5), .ref (p1 6), .ref (p1 7), .ref (p1 8), .ref (p1 9), .ref (p1 10), .ref (p1 11), .ref (p1 12), .ref (p1 13), .int 0, .int 0, .int 0, .int 0, .int 0, .int 100, .int 0, .int 0])), (p0, .inr (6, [.ref (p1 0), .int 0, .ref (p1 1), .ref (p1 14), .ref (p1 27), .ref (p1 28), .ref (p1 29), .ref (p1 30), .ref (p1 54), .null, .int 1, .int 1, .int 999, .ref (p1 61), .ref (p1 62), .ref (p1 63), .ref (p1 60)]))] H := hP
  have hD : va_D A [((p1 28), .inr (0, [.int 0, .int 0, .int 0, .int 0])), ((p1 29), .inr (0, [.int 0, .int 0, .int 0, .int 0])), ((p1 62), .inl (cJ, 13, .inr (.inl (fun _ => (-1))))), ((p1 1), .inr (5, [.ref (p1 2), .ref (p1 3), .ref (p1 4), .ref (p1 5), .ref (p1 6), .ref (p1 7), .ref (p1 8), .ref (p1 9), .ref (p1 10), .ref (p1 11), .ref (p1 12), .ref (p1 13), .int 0, .int 0, .int 0, .int 0, .int 0, .int 100, .int 0, .int 0])), (p0, .inr (6, [.ref (p1 0), .int 0, .ref (p1 1), .ref (p1 14), .ref (p1 27), .ref (p1 28), .ref (p1 29), .ref (p1 30), .ref (p1 54), .null, .int 1, .int 1, .int 999, .ref (p1 61), .ref (p1 62), .ref (p1 63), .ref (p1 60)]))] := hD
  refine lv_istore_n (lv' := [(1, .int 0), (0, .ref p0)]) hx hb dX6_stop_4 rfl hl (by decide) rfl (fun ls hl => ?_)
  refine lv_iload_n hx hb dX6_stop_5 rfl (lv_at hl 0 rfl) ?_
  refine lv_bipush (v := 12) hx hb dX6_stop_6 (by decide +kernel) ?_
  refine lv_icmp_gt (tgt := 39) hx hb dX6_stop_8 (by decide) (fun q9 => absurd q9 (by decide +kernel)) (fun _ => ?_)
  refine lv_aload_n hx hb dX6_stop_11 rfl (lv_at hl 1 rfl) ?_
  refine lv_iload_n hx hb dX6_stop_12 rfl (lv_at hl 0 rfl) ?_
  refine lv_iconst (v := (-1)) hx hb dX6_stop_13 (by decide +kernel) ?_
  refine k_ci (wc := []) (wr := [((p1 28), .inr (0, [.int 0, .int 0, .int 0, .int 0])), ((p1 29), .inr (0, [.int 0, .int 0, .int 0, .int 0])), ((p1 62), .inl (cJ, 13, .inr (.inl (fun _ => (-1))))), ((p1 1), .inr (5, [.ref (p1 2), .ref (p1 3), .ref (p1 4), .ref (p1 5), .ref (p1 6), .ref (p1 7), .ref (p1 8), .ref (p1 9), .ref (p1 10), .ref (p1 11), .ref (p1 12), .ref (p1 13), .int 0, .int 0, .int 0, .int 0, .int 0, .int 100, .int 0, .int 0])), (p0, .inr (6, [.ref (p1 0), .int 0, .ref (p1 1), .ref (p1 14), .ref (p1 27), .ref (p1 28), .ref (p1 29), .ref (p1 30), .ref (p1 54), .null, .int 1, .int 1, .int 999, .ref (p1 61), .ref (p1 62), .ref (p1 63), .ref (p1 60)]))]) (fun hPc hDc hFc => va_runV (As := [.int 0, .int (-1)]) (rest := []) ⟨hx, hb, hml, hown, hts⟩ (c_X6_namesWishes_v1 l dC dI cI cJ cZ cM p0 H.size) (cwV 2 hts gX6_stop_X6_namesWishes rfl rfl rfl (by decide +kernel) ⟨(Nat.le_of_ble_eq_true rfl), (Nat.le_of_ble_eq_true rfl)⟩) (k_pV hPc hDc hK hN hC hS hFc hP (q0 := 4) (ci := 6) rfl rfl) rfl rfl hl.1 rfl (lv_room (Nat.le_of_ble_eq_true rfl)) dX6_stop_14 ⟨(Nat.le_of_ble_eq_true rfl), (Nat.le_of_ble_eq_true rfl)⟩) hP hD hS hA [] [0, 1, 2, 3, 4] rfl rfl rfl rfl (by decide) (fun _ => rfl) 0 0 rfl rfl (fun r_3 u_4 H locs hw hP hD hS => ?_)
  obtain rfl : r_3 = 1 := hw
  have hP : va_P (dC, dI) vwCl [((p1 28), .inr (0, [.int 0, .int 0, .int 0, .int 0])), ((p1 29), .inr (0, [.int 0, .int 0, .int 0, .int 0])), ((p1 62), .inl (cJ, 13, .inr (.inl (fun _ => (-1))))), ((p1 1), .inr (5, [.ref (p1 2), .ref (p1 3), .ref (p1 4), .ref (p1 5), .ref (p1 6), .ref (p1 7), .ref (p1 8), .ref (p1 9), .ref (p1 10), .ref (p1 11), .ref (p1 12), .ref (p1 13), .int 0, .int 0, .int 0, .int 0, .int 0, .int 100, .int 0, .int 0])), (p0, .inr (6, [.ref (p1 0), .int 0, .ref (p1 1), .ref (p1 14), .ref (p1 27), .ref (p1 28), .ref (p1 29), .ref (p1 30), .ref (p1 54), .null, .int 1, .int 1, .int 999, .ref (p1 61), .ref (p1 62), .ref (p1 63), .ref (p1 60)]))] H := hP
  have hD : va_D A [((p1 28), .inr (0, [.int 0, .int 0, .int 0, .int 0])), ((p1 29), .inr (0, [.int 0, .int 0, .int 0, .int 0])), ((p1 62), .inl (cJ, 13, .inr (.inl (fun _ => (-1))))), ((p1 1), .inr (5, [.ref (p1 2), .ref (p1 3), .ref (p1 4), .ref (p1 5), .ref (p1 6), .ref (p1 7), .ref (p1 8), .ref (p1 9), .ref (p1 10), .ref (p1 11), .ref (p1 12), .ref (p1 13), .int 0, .int 0, .int 0, .int 0, .int 0, .int 100, .int 0, .int 0])), (p0, .inr (6, [.ref (p1 0), .int 0, .ref (p1 1), .ref (p1 14), .ref (p1 27), .ref (p1 28), .ref (p1 29), .ref (p1 30), .ref (p1 54), .null, .int 1, .int 1, .int 999, .ref (p1 61), .ref (p1 62), .ref (p1 63), .ref (p1 60)]))] := hD
  refine lv_if_eq (tgt := 39) hx hb dX6_stop_17 (by decide) (fun q9 => absurd q9 (by decide +kernel)) (fun _ => ?_)
  refine lv_aload_n hx hb dX6_stop_20 rfl (lv_at hl 1 rfl) ?_
  refine lv_aload_n hx hb dX6_stop_21 rfl (lv_at hl 1 rfl) ?_
  refine k_get (D := (dC, dI)) (ci := 6) (v := .int 1) (C := RX6) (T := TX6) (N := 17) hx hb hts hinX6 hown hK hP 4 rfl rfl 11 (by decide) w_0 rfl rfl dX6_stop_22 ?_
  refine k_ci (wc := [(p0, .inr (6, [.ref (p1 0), .int 0, .ref (p1 1), .ref (p1 14), .ref (p1 27), .ref (p1 28), .ref (p1 29), .ref (p1 30), .ref (p1 54), .null, .int 1, .int 1, .int 999, .ref (p1 61), .ref (p1 62), .ref (p1 63), .ref (p1 60)]))]) (wr := [((p1 28), .inr (0, [.int 0, .int 0, .int 0, .int 0])), ((p1 29), .inr (0, [.int 0, .int 0, .int 0, .int 0])), ((p1 62), .inl (cJ, 13, .inr (.inl (fun _ => (-1))))), ((p1 1), .inr (5, [.ref (p1 2), .ref (p1 3), .ref (p1 4), .ref (p1 5), .ref (p1 6), .ref (p1 7), .ref (p1 8), .ref (p1 9), .ref (p1 10), .ref (p1 11), .ref (p1 12), .ref (p1 13), .int 0, .int 0, .int 0, .int 0, .int 0, .int 100, .int 0, .int 0]))]) (fun hPc hDc hFc => va_runV (As := [.int 1]) (rest := []) ⟨hx, hb, hml, hown, hts⟩ (c_X6_bearsFrom_v0 l dC dI cI cJ cZ cM p0 p1 H.size) (cwV 1 hts gX6_stop_X6_bearsFrom rfl rfl rfl (by decide +kernel) ⟨(Nat.le_of_ble_eq_true rfl), (Nat.le_of_ble_eq_true rfl)⟩) (k_pV hPc hDc hK hN hC hS hFc hP (q0 := 4) (ci := 6) rfl rfl) rfl rfl hl.1 rfl (lv_room (Nat.le_of_ble_eq_true rfl)) dX6_stop_25 ⟨(Nat.le_of_ble_eq_true rfl), (Nat.le_of_ble_eq_true rfl)⟩) hP hD hS hA [4] [0, 1, 2, 3] rfl rfl rfl rfl (by decide) (fun _ => rfl) 0 0 rfl rfl (fun r_5 u_6 H locs hw hP hD hS => ?_)
  obtain rfl : r_5 = 999 := hw
  have hP : va_P (dC, dI) vwCl [((p1 28), .inr (0, [.int 0, .int 0, .int 0, .int 0])), ((p1 29), .inr (0, [.int 0, .int 0, .int 0, .int 0])), ((p1 62), .inl (cJ, 13, .inr (.inl (fun _ => (-1))))), ((p1 1), .inr (5, [.ref (p1 2), .ref (p1 3), .ref (p1 4), .ref (p1 5), .ref (p1 6), .ref (p1 7), .ref (p1 8), .ref (p1 9), .ref (p1 10), .ref (p1 11), .ref (p1 12), .ref (p1 13), .int 0, .int 0, .int 0, .int 0, .int 0, .int 100, .int 0, .int 0])), (p0, .inr (6, [.ref (p1 0), .int 0, .ref (p1 1), .ref (p1 14), .ref (p1 27), .ref (p1 28), .ref (p1 29), .ref (p1 30), .ref (p1 54), .null, .int 1, .int 1, .int 999, .ref (p1 61), .ref (p1 62), .ref (p1 63), .ref (p1 60)]))] H := hP
  have hD : va_D A [((p1 28), .inr (0, [.int 0, .int 0, .int 0, .int 0])), ((p1 29), .inr (0, [.int 0, .int 0, .int 0, .int 0])), ((p1 62), .inl (cJ, 13, .inr (.inl (fun _ => (-1))))), ((p1 1), .inr (5, [.ref (p1 2), .ref (p1 3), .ref (p1 4), .ref (p1 5), .ref (p1 6), .ref (p1 7), .ref (p1 8), .ref (p1 9), .ref (p1 10), .ref (p1 11), .ref (p1 12), .ref (p1 13), .int 0, .int 0, .int 0, .int 0, .int 0, .int 100, .int 0, .int 0])), (p0, .inr (6, [.ref (p1 0), .int 0, .ref (p1 1), .ref (p1 14), .ref (p1 27), .ref (p1 28), .ref (p1 29), .ref (p1 30), .ref (p1 54), .null, .int 1, .int 1, .int 999, .ref (p1 61), .ref (p1 62), .ref (p1 63), .ref (p1 60)]))] := hD
  refine lv_if_eq (tgt := 39) hx hb dX6_stop_28 (by decide) (fun q9 => absurd q9 (by decide +kernel)) (fun _ => ?_)
  refine lv_aload_n hx hb dX6_stop_31 rfl (lv_at hl 1 rfl) ?_
  refine lv_iload_n hx hb dX6_stop_32 rfl (lv_at hl 0 rfl) ?_
  refine k_ci (wc := [(p0, .inr (6, [.ref (p1 0), .int 0, .ref (p1 1), .ref (p1 14), .ref (p1 27), .ref (p1 28), .ref (p1 29), .ref (p1 30), .ref (p1 54), .null, .int 1, .int 1, .int 999, .ref (p1 61), .ref (p1 62), .ref (p1 63), .ref (p1 60)])), ((p1 28), .inr (0, [.int 0, .int 0, .int 0, .int 0])), ((p1 29), .inr (0, [.int 0, .int 0, .int 0, .int 0]))]) (wr := [((p1 62), .inl (cJ, 13, .inr (.inl (fun _ => (-1))))), ((p1 1), .inr (5, [.ref (p1 2), .ref (p1 3), .ref (p1 4), .ref (p1 5), .ref (p1 6), .ref (p1 7), .ref (p1 8), .ref (p1 9), .ref (p1 10), .ref (p1 11), .ref (p1 12), .ref (p1 13), .int 0, .int 0, .int 0, .int 0, .int 0, .int 100, .int 0, .int 0]))]) (fun hPc hDc hFc => va_runV (As := [.int 0]) (rest := []) ⟨hx, hb, hml, hown, hts⟩ (c_X6_mayAllBeSaid_v0 l dC dI cI cJ cZ cM p0 p1 H.size) (cwV 1 hts gX6_stop_X6_mayAllBeSaid rfl rfl rfl (by decide +kernel) ⟨(Nat.le_of_ble_eq_true rfl), (Nat.le_of_ble_eq_true rfl)⟩) (k_pV hPc hDc hK hN hC hS hFc hP (q0 := 4) (ci := 6) rfl rfl) rfl rfl hl.1 rfl (lv_room (Nat.le_of_ble_eq_true rfl)) dX6_stop_33 ⟨(Nat.le_of_ble_eq_true rfl), (Nat.le_of_ble_eq_true rfl)⟩) hP hD hS hA [4, 0, 1] [2, 3] rfl rfl rfl rfl (by decide) (fun _ => rfl) 0 0 rfl rfl (fun r_7 u_8 H locs hw hP hD hS => ?_)
  obtain rfl : r_7 = 1 := hw
  have hP : va_P (dC, dI) vwCl [((p1 62), .inl (cJ, 13, .inr (.inl (fun _ => (-1))))), ((p1 1), .inr (5, [.ref (p1 2), .ref (p1 3), .ref (p1 4), .ref (p1 5), .ref (p1 6), .ref (p1 7), .ref (p1 8), .ref (p1 9), .ref (p1 10), .ref (p1 11), .ref (p1 12), .ref (p1 13), .int 0, .int 0, .int 0, .int 0, .int 0, .int 100, .int 0, .int 0])), (p0, .inr (6, [.ref (p1 0), .int 0, .ref (p1 1), .ref (p1 14), .ref (p1 27), .ref (p1 28), .ref (p1 29), .ref (p1 30), .ref (p1 54), .null, .int 1, .int 1, .int 999, .ref (p1 61), .ref (p1 62), .ref (p1 63), .ref (p1 60)])), ((p1 28), .inr (0, [.int 0, .int 0, .int 0, .int 0])), ((p1 29), .inr (0, [.int 0, .int 0, .int 0, .int 0]))] H := hP
  have hD : va_D A [((p1 62), .inl (cJ, 13, .inr (.inl (fun _ => (-1))))), ((p1 1), .inr (5, [.ref (p1 2), .ref (p1 3), .ref (p1 4), .ref (p1 5), .ref (p1 6), .ref (p1 7), .ref (p1 8), .ref (p1 9), .ref (p1 10), .ref (p1 11), .ref (p1 12), .ref (p1 13), .int 0, .int 0, .int 0, .int 0, .int 0, .int 100, .int 0, .int 0])), (p0, .inr (6, [.ref (p1 0), .int 0, .ref (p1 1), .ref (p1 14), .ref (p1 27), .ref (p1 28), .ref (p1 29), .ref (p1 30), .ref (p1 54), .null, .int 1, .int 1, .int 999, .ref (p1 61), .ref (p1 62), .ref (p1 63), .ref (p1 60)])), ((p1 28), .inr (0, [.int 0, .int 0, .int 0, .int 0])), ((p1 29), .inr (0, [.int 0, .int 0, .int 0, .int 0]))] := hD
  refine lv_if_ne (tgt := 45) hx hb dX6_stop_36 (by decide) (fun _ => ?_) (fun q9 => absurd q9 (by decide +kernel))
  refine lv_aload_n hx hb dX6_stop_45 rfl (lv_at hl 1 rfl) ?_
  refine k_get (D := (dC, dI)) (ci := 6) (v := .ref (p1 62)) (C := RX6) (T := TX6) (N := 17) hx hb hts hinX6 hown hK hP 2 rfl rfl 14 (by decide) w_1 rfl rfl dX6_stop_46 ?_
  refine lv_ldc2 (v := (-1)) hx hb hown w_2 dX6_stop_49 ?_
  refine k_cv (wc := [((p1 62), .inl (cJ, 13, .inr (.inl (fun _ => (-1)))))]) (wr := [((p1 1), .inr (5, [.ref (p1 2), .ref (p1 3), .ref (p1 4), .ref (p1 5), .ref (p1 6), .ref (p1 7), .ref (p1 8), .ref (p1 9), .ref (p1 10), .ref (p1 11), .ref (p1 12), .ref (p1 13), .int 0, .int 0, .int 0, .int 0, .int 0, .int 100, .int 0, .int 0])), (p0, .inr (6, [.ref (p1 0), .int 0, .ref (p1 1), .ref (p1 14), .ref (p1 27), .ref (p1 28), .ref (p1 29), .ref (p1 30), .ref (p1 54), .null, .int 1, .int 1, .int 999, .ref (p1 61), .ref (p1 62), .ref (p1 63), .ref (p1 60)])), ((p1 28), .inr (0, [.int 0, .int 0, .int 0, .int 0])), ((p1 29), .inr (0, [.int 0, .int 0, .int 0, .int 0]))]) (fun hPc hDc hFc => va_runS (As := [.ref (p1 62), .long (-1)]) (rest := []) ⟨hx, hb, hml, hown, hts⟩ (c_J7_fill_d0a16_v1 l dC dI cI cJ cZ cM p1 H.size) (va_cwS 2 hts gX6_stop_J7_fill_d0a16 rfl rfl rfl (by decide +kernel) ⟨(Nat.le_of_ble_eq_true rfl), (Nat.le_of_ble_eq_true rfl)⟩) (k_pS hPc hDc hK hN hC hS hFc) rfl rfl hl.1 rfl (lv_room (Nat.le_of_ble_eq_true rfl)) dX6_stop_52 ⟨(Nat.le_of_ble_eq_true rfl), (Nat.le_of_ble_eq_true rfl)⟩) hP hD hS hA [0] [1, 2, 3, 4] rfl rfl rfl rfl (by decide) (fun _ => rfl) 0 0 rfl rfl (fun u_10 H locs hw hP hD hS => ?_)
  have hP : va_P (dC, dI) vwCl [((p1 1), .inr (5, [.ref (p1 2), .ref (p1 3), .ref (p1 4), .ref (p1 5), .ref (p1 6), .ref (p1 7), .ref (p1 8), .ref (p1 9), .ref (p1 10), .ref (p1 11), .ref (p1 12), .ref (p1 13), .int 0, .int 0, .int 0, .int 0, .int 0, .int 100, .int 0, .int 0])), (p0, .inr (6, [.ref (p1 0), .int 0, .ref (p1 1), .ref (p1 14), .ref (p1 27), .ref (p1 28), .ref (p1 29), .ref (p1 30), .ref (p1 54), .null, .int 1, .int 1, .int 999, .ref (p1 61), .ref (p1 62), .ref (p1 63), .ref (p1 60)])), ((p1 28), .inr (0, [.int 0, .int 0, .int 0, .int 0])), ((p1 29), .inr (0, [.int 0, .int 0, .int 0, .int 0])), ((p1 62), .inl (cJ, 13, .inr (.inl (fun _ => (-1)))))] H := hP
  have hD : va_D A [((p1 1), .inr (5, [.ref (p1 2), .ref (p1 3), .ref (p1 4), .ref (p1 5), .ref (p1 6), .ref (p1 7), .ref (p1 8), .ref (p1 9), .ref (p1 10), .ref (p1 11), .ref (p1 12), .ref (p1 13), .int 0, .int 0, .int 0, .int 0, .int 0, .int 100, .int 0, .int 0])), (p0, .inr (6, [.ref (p1 0), .int 0, .ref (p1 1), .ref (p1 14), .ref (p1 27), .ref (p1 28), .ref (p1 29), .ref (p1 30), .ref (p1 54), .null, .int 1, .int 1, .int 999, .ref (p1 61), .ref (p1 62), .ref (p1 63), .ref (p1 60)])), ((p1 28), .inr (0, [.int 0, .int 0, .int 0, .int 0])), ((p1 29), .inr (0, [.int 0, .int 0, .int 0, .int 0])), ((p1 62), .inl (cJ, 13, .inr (.inl (fun _ => (-1)))))] := hD
  refine lv_aload_n hx hb dX6_stop_55 rfl (lv_at hl 1 rfl) ?_
  refine k_get (D := (dC, dI)) (ci := 6) (v := .ref (p1 29)) (C := RX6) (T := TX6) (N := 17) hx hb hts hinX6 hown hK hP 1 rfl rfl 6 (by decide) w_3 rfl rfl dX6_stop_56 ?_
  refine lv_aload_n hx hb dX6_stop_59 rfl (lv_at hl 1 rfl) ?_
  refine k_get (D := (dC, dI)) (ci := 6) (v := .ref (p1 28)) (C := RX6) (T := TX6) (N := 17) hx hb hts hinX6 hown hK hP 1 rfl rfl 5 (by decide) w_4 rfl rfl dX6_stop_60 ?_
  refine k_cv (wc := [((p1 28), .inr (0, [.int 0, .int 0, .int 0, .int 0])), ((p1 29), .inr (0, [.int 0, .int 0, .int 0, .int 0]))]) (wr := [((p1 1), .inr (5, [.ref (p1 2), .ref (p1 3), .ref (p1 4), .ref (p1 5), .ref (p1 6), .ref (p1 7), .ref (p1 8), .ref (p1 9), .ref (p1 10), .ref (p1 11), .ref (p1 12), .ref (p1 13), .int 0, .int 0, .int 0, .int 0, .int 0, .int 100, .int 0, .int 0])), (p0, .inr (6, [.ref (p1 0), .int 0, .ref (p1 1), .ref (p1 14), .ref (p1 27), .ref (p1 28), .ref (p1 29), .ref (p1 30), .ref (p1 54), .null, .int 1, .int 1, .int 999, .ref (p1 61), .ref (p1 62), .ref (p1 63), .ref (p1 60)])), ((p1 62), .inl (cJ, 13, .inr (.inl (fun _ => (-1)))))]) (fun hPc hDc hFc => va_runV (As := [.ref (p1 28)]) (rest := []) ⟨hx, hb, hml, hown, hts⟩ (c_X0_take_v1 l dC dI cI cJ cZ cM p1 H.size) (cwV 1 hts gX6_stop_X0_take rfl rfl rfl (by decide +kernel) ⟨(Nat.le_of_ble_eq_true rfl), (Nat.le_of_ble_eq_true rfl)⟩) (k_pV hPc hDc hK hN hC hS hFc hP (q0 := 3) (ci := 0) rfl rfl) rfl rfl hl.1 rfl (lv_room (Nat.le_of_ble_eq_true rfl)) dX6_stop_63 ⟨(Nat.le_of_ble_eq_true rfl), (Nat.le_of_ble_eq_true rfl)⟩) hP hD hS hA [2, 3] [0, 1, 4] rfl rfl rfl rfl (by decide) (fun _ => rfl) 0 0 rfl rfl (fun u_12 H locs hw hP hD hS => ?_)
  have hP : va_P (dC, dI) vwCl [((p1 1), .inr (5, [.ref (p1 2), .ref (p1 3), .ref (p1 4), .ref (p1 5), .ref (p1 6), .ref (p1 7), .ref (p1 8), .ref (p1 9), .ref (p1 10), .ref (p1 11), .ref (p1 12), .ref (p1 13), .int 0, .int 0, .int 0, .int 0, .int 0, .int 100, .int 0, .int 0])), (p0, .inr (6, [.ref (p1 0), .int 0, .ref (p1 1), .ref (p1 14), .ref (p1 27), .ref (p1 28), .ref (p1 29), .ref (p1 30), .ref (p1 54), .null, .int 1, .int 1, .int 999, .ref (p1 61), .ref (p1 62), .ref (p1 63), .ref (p1 60)])), ((p1 62), .inl (cJ, 13, .inr (.inl (fun _ => (-1))))), ((p1 28), .inr (0, [.int 0, .int 0, .int 0, .int 0])), ((p1 29), .inr (0, [.int 0, .int 0, .int 0, .int 0]))] H := hP
  have hD : va_D A [((p1 1), .inr (5, [.ref (p1 2), .ref (p1 3), .ref (p1 4), .ref (p1 5), .ref (p1 6), .ref (p1 7), .ref (p1 8), .ref (p1 9), .ref (p1 10), .ref (p1 11), .ref (p1 12), .ref (p1 13), .int 0, .int 0, .int 0, .int 0, .int 0, .int 100, .int 0, .int 0])), (p0, .inr (6, [.ref (p1 0), .int 0, .ref (p1 1), .ref (p1 14), .ref (p1 27), .ref (p1 28), .ref (p1 29), .ref (p1 30), .ref (p1 54), .null, .int 1, .int 1, .int 999, .ref (p1 61), .ref (p1 62), .ref (p1 63), .ref (p1 60)])), ((p1 62), .inl (cJ, 13, .inr (.inl (fun _ => (-1))))), ((p1 28), .inr (0, [.int 0, .int 0, .int 0, .int 0])), ((p1 29), .inr (0, [.int 0, .int 0, .int 0, .int 0]))] := hD
  refine lv_iconst (v := 0) hx hb dX6_stop_66 (by decide +kernel) ?_
  refine lv_istore_n (lv' := [(2, .int 0), (1, .int 0), (0, .ref p0)]) hx hb dX6_stop_67 rfl hl (by decide) rfl (fun ls hl => ?_)
  refine lv_iconst (v := 0) hx hb dX6_stop_68 (by decide +kernel) ?_
  refine lv_istore_n (lv' := [(3, .int 0), (2, .int 0), (1, .int 0), (0, .ref p0)]) hx hb dX6_stop_69 rfl hl (by decide) rfl (fun ls hl => ?_)
  refine lv_iconst (v := 0) hx hb dX6_stop_70 (by decide +kernel) ?_
  refine lv_istore (lv' := [(4, .int 0), (3, .int 0), (2, .int 0), (1, .int 0), (0, .ref p0)]) hx hb dX6_stop_71 hl (by decide) rfl (fun ls hl => ?_)
  refine lv_iload hx hb dX6_stop_73 (lv_at hl 0 rfl) ?_
  refine lv_iload_n hx hb dX6_stop_75 rfl (lv_at hl 3 rfl) ?_
  refine lv_icmp_gt (tgt := 191) hx hb dX6_stop_76 (by decide) (fun q9 => absurd q9 (by decide +kernel)) (fun _ => ?_)
  refine lv_iload hx hb dX6_stop_79 (lv_at hl 0 rfl) ?_
  refine lv_aload_n hx hb dX6_stop_81 rfl (lv_at hl 4 rfl) ?_
  refine k_get (D := (dC, dI)) (ci := 6) (v := .ref (p1 62)) (C := RX6) (T := TX6) (N := 17) hx hb hts hinX6 hown hK hP 1 rfl rfl 14 (by decide) w_1 rfl rfl dX6_stop_82 ?_
  refine va_alen (v := 13) hx hb hK hP 2 1 rfl rfl rfl dX6_stop_85 ?_
  refine lv_icmp_ge (tgt := 191) hx hb dX6_stop_86 (by decide) (fun q9 => absurd q9 (by decide +kernel)) (fun _ => ?_)
  refine lv_iload hx hb dX6_stop_89 (lv_at hl 0 rfl) ?_
  refine lv_if_le (tgt := 146) hx hb dX6_stop_91 (by decide) (fun _ => ?_) (fun q9 => absurd q9 (by decide +kernel))
  refine lv_aload_n hx hb dX6_stop_146 rfl (lv_at hl 4 rfl) ?_
  refine k_get (D := (dC, dI)) (ci := 6) (v := .ref (p1 62)) (C := RX6) (T := TX6) (N := 17) hx hb hts hinX6 hown hK hP 1 rfl rfl 14 (by decide) w_1 rfl rfl dX6_stop_147 ?_
  refine lv_iload hx hb dX6_stop_150 (lv_at hl 0 rfl) ?_
  refine lv_aload_n hx hb dX6_stop_152 rfl (lv_at hl 4 rfl) ?_
  refine lv_aload_n hx hb dX6_stop_153 rfl (lv_at hl 4 rfl) ?_
  refine k_get (D := (dC, dI)) (ci := 6) (v := .ref (p1 29)) (C := RX6) (T := TX6) (N := 17) hx hb hts hinX6 hown hK hP 1 rfl rfl 6 (by decide) w_3 rfl rfl dX6_stop_154 ?_
  refine k_get (D := (dC, dI)) (ci := 0) (v := .int 0) (C := RX0) (T := TX0) (N := 4) hx hb hts hinX0 hown hK hP 4 rfl rfl 0 (by decide) w_5 rfl rfl dX6_stop_157 ?_
  refine lv_iload_n hx hb dX6_stop_160 rfl (lv_at hl 2 rfl) ?_
  refine k_cl (wc := [(p0, .inr (6, [.ref (p1 0), .int 0, .ref (p1 1), .ref (p1 14), .ref (p1 27), .ref (p1 28), .ref (p1 29), .ref (p1 30), .ref (p1 54), .null, .int 1, .int 1, .int 999, .ref (p1 61), .ref (p1 62), .ref (p1 63), .ref (p1 60)])), ((p1 1), .inr (5, [.ref (p1 2), .ref (p1 3), .ref (p1 4), .ref (p1 5), .ref (p1 6), .ref (p1 7), .ref (p1 8), .ref (p1 9), .ref (p1 10), .ref (p1 11), .ref (p1 12), .ref (p1 13), .int 0, .int 0, .int 0, .int 0, .int 0, .int 100, .int 0, .int 0]))]) (wr := [((p1 62), .inl (cJ, 13, .inr (.inl (fun _ => (-1))))), ((p1 28), .inr (0, [.int 0, .int 0, .int 0, .int 0])), ((p1 29), .inr (0, [.int 0, .int 0, .int 0, .int 0]))]) (fun hPc hDc hFc => va_runV (As := [.int 0, .int 0]) (rest := [.int 0, .ref (p1 62)]) ⟨hx, hb, hml, hown, hts⟩ (c_X6_valueOf_v0 l dC dI cI cJ cZ cM p0 p1 H.size) (cwV 2 hts gX6_stop_X6_valueOf rfl rfl rfl (by decide +kernel) ⟨(Nat.le_of_ble_eq_true rfl), (Nat.le_of_ble_eq_true rfl)⟩) (k_pV hPc hDc hK hN hC hS hFc hP (q0 := 1) (ci := 6) rfl rfl) rfl rfl hl.1 rfl (lv_room (Nat.le_of_ble_eq_true rfl)) dX6_stop_161 ⟨(Nat.le_of_ble_eq_true rfl), (Nat.le_of_ble_eq_true rfl)⟩) hP hD hS hA [1, 0] [2, 3, 4] rfl rfl rfl rfl (by decide) (fun _ => rfl) 0 0 rfl rfl (fun r_13 u_14 H locs hw hP hD hS => ?_)
  obtain rfl : r_13 = 0 := hw
  have hP : va_P (dC, dI) vwCl [((p1 62), .inl (cJ, 13, .inr (.inl (fun _ => (-1))))), ((p1 28), .inr (0, [.int 0, .int 0, .int 0, .int 0])), ((p1 29), .inr (0, [.int 0, .int 0, .int 0, .int 0])), (p0, .inr (6, [.ref (p1 0), .int 0, .ref (p1 1), .ref (p1 14), .ref (p1 27), .ref (p1 28), .ref (p1 29), .ref (p1 30), .ref (p1 54), .null, .int 1, .int 1, .int 999, .ref (p1 61), .ref (p1 62), .ref (p1 63), .ref (p1 60)])), ((p1 1), .inr (5, [.ref (p1 2), .ref (p1 3), .ref (p1 4), .ref (p1 5), .ref (p1 6), .ref (p1 7), .ref (p1 8), .ref (p1 9), .ref (p1 10), .ref (p1 11), .ref (p1 12), .ref (p1 13), .int 0, .int 0, .int 0, .int 0, .int 0, .int 100, .int 0, .int 0]))] H := hP
  have hD : va_D A [((p1 62), .inl (cJ, 13, .inr (.inl (fun _ => (-1))))), ((p1 28), .inr (0, [.int 0, .int 0, .int 0, .int 0])), ((p1 29), .inr (0, [.int 0, .int 0, .int 0, .int 0])), (p0, .inr (6, [.ref (p1 0), .int 0, .ref (p1 1), .ref (p1 14), .ref (p1 27), .ref (p1 28), .ref (p1 29), .ref (p1 30), .ref (p1 54), .null, .int 1, .int 1, .int 999, .ref (p1 61), .ref (p1 62), .ref (p1 63), .ref (p1 60)])), ((p1 1), .inr (5, [.ref (p1 2), .ref (p1 3), .ref (p1 4), .ref (p1 5), .ref (p1 6), .ref (p1 7), .ref (p1 8), .ref (p1 9), .ref (p1 10), .ref (p1 11), .ref (p1 12), .ref (p1 13), .int 0, .int 0, .int 0, .int 0, .int 0, .int 100, .int 0, .int 0]))] := hD
  refine k_last (g := (vp_updL (fun _ => (-1)) 0 0)) (ws' := [((p1 62), .inl (cJ, 13, .inr (.inl (vp_updL (fun _ => (-1)) 0 0)))), ((p1 28), .inr (0, [.int 0, .int 0, .int 0, .int 0])), ((p1 29), .inr (0, [.int 0, .int 0, .int 0, .int 0])), (p0, .inr (6, [.ref (p1 0), .int 0, .ref (p1 1), .ref (p1 14), .ref (p1 27), .ref (p1 28), .ref (p1 29), .ref (p1 30), .ref (p1 54), .null, .int 1, .int 1, .int 999, .ref (p1 61), .ref (p1 62), .ref (p1 63), .ref (p1 60)])), ((p1 1), .inr (5, [.ref (p1 2), .ref (p1 3), .ref (p1 4), .ref (p1 5), .ref (p1 6), .ref (p1 7), .ref (p1 8), .ref (p1 9), .ref (p1 10), .ref (p1 11), .ref (p1 12), .ref (p1 13), .int 0, .int 0, .int 0, .int 0, .int 0, .int 100, .int 0, .int 0]))]) hx hb hK hP hD hS 0 1 0 rfl rfl rfl (Nat.le_of_ble_eq_true rfl) (Nat.le_of_ble_eq_true rfl) rfl rfl dX6_stop_164 (fun H locs hP hD hS => ?_)
  refine lv_aload_n hx hb dX6_stop_165 rfl (lv_at hl 4 rfl) ?_
  refine k_get (D := (dC, dI)) (ci := 6) (v := .ref (p1 62)) (C := RX6) (T := TX6) (N := 17) hx hb hts hinX6 hown hK hP 3 rfl rfl 14 (by decide) w_1 rfl rfl dX6_stop_166 ?_
  refine lv_iload hx hb dX6_stop_169 (lv_at hl 0 rfl) ?_
  refine k_lald (v := 0) hx hb hK hP 0 1 0 rfl rfl rfl (Nat.le_of_ble_eq_true rfl) (Nat.le_of_ble_eq_true rfl) rfl dX6_stop_171 ?_
  refine lv_aload_n hx hb dX6_stop_172 rfl (lv_at hl 4 rfl) ?_
  refine k_get (D := (dC, dI)) (ci := 6) (v := .ref (p1 62)) (C := RX6) (T := TX6) (N := 17) hx hb hts hinX6 hown hK hP 3 rfl rfl 14 (by decide) w_1 rfl rfl dX6_stop_173 ?_
  refine lv_iload_n hx hb dX6_stop_176 rfl (lv_at hl 1 rfl) ?_
  refine k_lald (v := 0) hx hb hK hP 0 1 0 rfl rfl rfl (Nat.le_of_ble_eq_true rfl) (Nat.le_of_ble_eq_true rfl) rfl dX6_stop_177 ?_
  refine W.lcmp hx hb dX6_stop_178 ?_
  refine k_int (v := 0) (by decide +kernel) ?_
  refine lv_if_le (tgt := 185) hx hb dX6_stop_179 (by decide) (fun _ => ?_) (fun q9 => absurd q9 (by decide +kernel))
  refine lv_iinc (v := 1) (lv' := [(4, .int 1), (3, .int 0), (2, .int 0), (1, .int 0), (0, .ref p0)]) hx hb dX6_stop_185 hl (k := 0) rfl (by decide +kernel) (by decide) rfl (fun ls hl => ?_)
  refine lv_goto (tgt := 73) hx hb dX6_stop_188 (by decide) ?_
  refine lv_iload hx hb dX6_stop_73 (lv_at hl 0 rfl) ?_
  refine lv_iload_n hx hb dX6_stop_75 rfl (lv_at hl 3 rfl) ?_
  refine lv_icmp_gt (tgt := 191) hx hb dX6_stop_76 (by decide) (fun _ => ?_) (fun q9 => absurd q9 (by decide +kernel))
  refine lv_iload_n hx hb dX6_stop_191 rfl (lv_at hl 1 rfl) ?_
  exact k_ri B hP hD hS dX6_stop_192 () [3, 1, 2, 0, 4] rfl rfl rfl (Nat.le_of_ble_eq_true rfl) (Nat.le_of_ble_eq_true rfl) rfl
set_option maxHeartbeats 4000000 in
set_option maxRecDepth 100000 in
theorem c_X7_areWishes_v1 (l : Launch) (dC : Nat → ClassId) (dI : Nat → Nat → Nat) (cI cJ cZ cM : ClassId) (p0 : Nat)   : k_Mi l yX7_areWishes wsX7_areWishes ({ frames := 1, cells := 0, slots := 0, locals := 40 }) (dC, dI) vwCl (tyy cI cJ cZ cM) [] [.ref p0, .int 0, .int 0] 0 0 (fun (u9 : Unit) => []) (fun (r9 : Int32) (u9 : Unit) => r9 = 1) := by
  refine fun sz => k_enter (cc := cX7_areWishes) (maxL := 4) (ret := some (.boolean)) (Qc := fun A => va_Qi (fun (r9 : Int32) (u9 : Unit) => r9 = 1) (fun u => k_B (dC, dI) vwCl (tyy cI cJ cZ cM) A ((fun (u9 : Unit) => []) u)) A) sz (by decide +kernel) rfl (Nat.le_of_ble_eq_true rfl) (fun p e s m args below meth c A ls H locs B hP hD hS hl => ?_)
  obtain ⟨hx, hb, hml, hown, hts, hr, hlk, hnm, hK, hA, hN, hC⟩ := id B
  have hown : s.vm.findClass RX7 = some m.cls := hown
  have hl : lv_has ls 4 [(0, .ref p0), (1, .int 0), (2, .int 0)] := hl
  refine lv_iconst (v := 0) hx hb dX7_areWishes_0 (by decide +kernel) ?_
  refine lv_istore_n (lv' := [(3, .int 0), (0, .ref p0), (1, .int 0), (2, .int 0)]) hx hb dX7_areWishes_1 rfl hl (by decide) rfl (fun ls hl => ?_)
  refine lv_iload_n hx hb dX7_areWishes_2 rfl (lv_at hl 0 rfl) ?_
  refine lv_iload_n hx hb dX7_areWishes_3 rfl (lv_at hl 2 rfl) ?_
  refine lv_icmp_ge (tgt := 44) hx hb dX7_areWishes_4 (by decide) (fun _ => ?_) (fun q9 => absurd q9 (by decide +kernel))
  refine lv_iconst (v := 1) hx hb dX7_areWishes_44 (by decide +kernel) ?_
  exact k_ri B hP hD hS dX7_areWishes_45 () [] rfl rfl rfl (Nat.le_of_ble_eq_true rfl) (Nat.le_of_ble_eq_true rfl) rfl
set_option maxHeartbeats 4000000 in
set_option maxRecDepth 100000 in
theorem c_X7_canBear_v2 (l : Launch) (dC : Nat → ClassId) (dI : Nat → Nat → Nat) (cI cJ cZ cM : ClassId) (p0 : Nat) (p1 : Nat → Nat)   : k_Mi l yX7_canBear wsX7_canBear ({ frames := 1, cells := 0, slots := 0, locals := 40 }) (dC, dI) vwCl (tyy cI cJ cZ cM) [(p0, .inr (7, oM p1 (upd i7 1 0) j7))] [.ref p0, .int 1] 0 0 (fun (u9 : Unit) => [(p0, .inr (7, oM p1 (upd i7 1 0) j7))]) (fun (r9 : Int32) (u9 : Unit) => r9 = 1) := by
  refine fun sz => k_enter (cc := cX7_canBear) (maxL := 3) (ret := some (.boolean)) (Qc := fun A => va_Qi (fun (r9 : Int32) (u9 : Unit) => r9 = 1) (fun u => k_B (dC, dI) vwCl (tyy cI cJ cZ cM) A ((fun (u9 : Unit) => [(p0, .inr (7, oM p1 (upd i7 1 0) j7))]) u)) A) sz (by decide +kernel) rfl (Nat.le_of_ble_eq_true rfl) (fun p e s m args below meth c A ls H locs B hP hD hS hl => ?_)
  obtain ⟨hx, hb, hml, hown, hts, hr, hlk, hnm, hK, hA, hN, hC⟩ := id B
  have hown : s.vm.findClass RX7 = some m.cls := hown
  have hl : lv_has ls 3 [(0, .ref p0), (1, .int 1)] := hl
  have w_0 : (Cond.fieldLink RX7 246 "WishSeaModel" "fallMany" "I").before args s = true := hts _ (List.mem_of_getElem? (i := 1) rfl)
  have hinX7 : ∀ w ∈ u_ws RX7 TX7 92, w ∈ wsX7_canBear := fun _ h => List.mem_cons_of_mem _ (List.mem_append_right _ h)
  refine lv_iconst (v := 0) hx hb dX7_canBear_0 (by decide +kernel) ?_
  refine lv_istore_n (lv' := [(2, .int 0), (0, .ref p0), (1, .int 1)]) hx hb dX7_canBear_1 rfl hl (by decide) rfl (fun ls hl => ?_)
  refine lv_iload_n hx hb dX7_canBear_2 rfl (lv_at hl 0 rfl) ?_
  refine lv_aload_n hx hb dX7_canBear_3 rfl (lv_at hl 1 rfl) ?_
  refine k_get (D := (dC, dI)) (ci := 7) (v := .int 0) (C := RX7) (T := TX7) (N := 92) hx hb hts hinX7 hown hK hP 0 rfl rfl 77 (by decide) w_0 rfl rfl dX7_canBear_4 ?_
  refine lv_icmp_ge (tgt := 42) hx hb dX7_canBear_7 (by decide) (fun _ => ?_) (fun q9 => absurd q9 (by decide +kernel))
  refine lv_iconst (v := 1) hx hb dX7_canBear_42 (by decide +kernel) ?_
  exact k_ri B hP hD hS dX7_canBear_43 () [0] rfl rfl rfl (Nat.le_of_ble_eq_true rfl) (Nat.le_of_ble_eq_true rfl) rfl
